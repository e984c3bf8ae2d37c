/** Terms 1 and promises 1 to 4: each sentence that names a bound, just inside it and just outside it. */
final class PeopleEdgesTest {
    private static final int BAD = -2, FULL = -4, MAX = Check.MAX, MIN = Check.MIN;

    public static void main(String[] args) {
        dayFrom0To999();
        wetFrom0To9();
        numberFrom0To9();
        rueFrom0To999();
        hadFrom0To999();
        dayAndWetOfWhomever();
        setOfNoSuchOne();
        setNoSuchWhat();
        fivePeopleAtMost();
        sixKinds();
        personNumberFrom0To9();
        personRueFrom0To999();
        personIsBadAheadOfFull();
        hadIs0AsOneComes();
        toldAsOfSet();
        toldOfNoSuchOne();
        toldNoSuchWhat();
        runsTellsFrom0To99();
        ruesTellsFrom0To99();
        personRuns();
        scampRuns();
        saintRunsHalfCut();
        bankerRunsHadBy10CutLess();
        nunRuns9OnHerDay();
        clerkRuns();
        whoClogs();
        scampClogsAboveWet3();
        bankerClogsAboveHad50();
        ruesByKind();
        clerkRues5AtMost();
        runsBeItClogged();
        Check.finish();
    }

    /** A CLERK ahead, so that what is set is of another one than 0. */
    private static GlassesOfRue two() {
        return Check.people(5, 1, 1, 0, 3, 4);
    }

    private static void bounds(String name, int what, int most, int was) {
        GlassesOfRue x = two();
        Check.due(name + " at first", x.told(1, what), was);
        Check.due(name + " becomes the most", x.set(what, 1, most), was);
        for (int v : new int[] {most + 1, -1, MAX, MIN}) {
            Check.due(name + " can't be " + v, x.set(what, 1, v), BAD);
            Check.due(name + " stays", x.told(1, what), most);
        }
        Check.due(name + " becomes 0", x.set(what, 1, 0), most);
        Check.due(name + " can't be -1", x.set(what, 1, -1), BAD);
        Check.due(name + " is 0", x.told(1, what), 0);
    }

    // ---- "DAY (0 .. 999; 0 at first). WET (0 .. 9; 0 at first). .. a NUMBER (0 .. 9), RUE (0 .. 999), have HAD (0 .. 999)"

    private static void dayFrom0To999() {
        bounds("DAY", 0, 999, 0);
    }

    private static void wetFrom0To9() {
        bounds("WET", 1, 9, 0);
    }

    private static void numberFrom0To9() {
        bounds("NUMBER", 2, 9, 3);
    }

    private static void rueFrom0To999() {
        bounds("RUE", 3, 999, 4);
    }

    private static void hadFrom0To999() {
        bounds("HAD", 4, 999, 0);
    }

    /** "DAY (what 0; of does not matter), WET (1; nor)" */
    private static void dayAndWetOfWhomever() {
        GlassesOfRue x = new GlassesOfRue();
        int day = 0;
        int wet = 0;
        for (int of : new int[] {-1, 0, 5, MAX, MIN}) {
            Check.due("set DAY of " + of, x.set(0, of, day + 1), day);
            Check.due("set WET of " + of, x.set(1, of, wet + 1), wet);
            day++;
            wet++;
            Check.due("told DAY of " + of, x.told(of, 0), day);
            Check.due("told WET of " + of, x.told(of, 1), wet);
        }
        Check.due("DAY out of bounds, of nobody", x.set(0, -1, 1000), BAD);
        Check.due("WET out of bounds, of nobody", x.set(1, -1, 10), BAD);
    }

    /** "NUMBER (2), RUE (3), HAD (4) of one of PEOPLE" */
    private static void setOfNoSuchOne() {
        GlassesOfRue nobody = new GlassesOfRue();
        GlassesOfRue x = two();
        for (int what = 2; what < 5; what++) {
            Check.due("set of nobody", nobody.set(what, 0, 0), BAD);
            for (int of : new int[] {-1, 2, 5, MAX, MIN}) {
                Check.due("set of " + of, x.set(what, of, 0), BAD);
            }
            int was = x.told(1, what);
            Check.due("set of the last", x.set(what, 1, 5), was);
            Check.due("told of the last", x.told(1, what), 5);
        }
    }

    private static void setNoSuchWhat() {
        GlassesOfRue x = two();
        for (int what : new int[] {-1, 5, 9, MAX, MIN}) {
            Check.due("set what " + what, x.set(what, 0, 0), BAD);
        }
    }

    // ---- who comes

    /** "PEOPLE (5 at most, numbered from 0)"; "person(..): the number. .. FULL" */
    private static void fivePeopleAtMost() {
        GlassesOfRue x = new GlassesOfRue();
        for (int i = 0; i < 5; i++) {
            Check.due("PEOPLE ahead of " + i, x.count(0), i);
            Check.due("the number of " + i, x.person(i, i, i), i);
        }
        Check.due("a sixth", x.person(0, 0, 0), FULL);
        Check.due("a sixth, again", x.person(0, 0, 0), FULL);
        Check.due("PEOPLE", x.count(0), 5);
        Check.due("the fifth stays", x.told(4, 3), 4);
    }

    /** "a KIND: 0 PERSON .. 5 CLERK" */
    private static void sixKinds() {
        for (int kind = 0; kind < 6; kind++) {
            GlassesOfRue x = new GlassesOfRue();
            Check.due("one of KIND " + kind, x.person(kind, 0, 0), 0);
            Check.due("KIND", x.told(0, 5), kind);
        }
        for (int kind : new int[] {-1, 6, MAX, MIN}) {
            GlassesOfRue x = new GlassesOfRue();
            Check.due("one of KIND " + kind, x.person(kind, 0, 0), BAD);
            Check.due("nobody came", x.count(0), 0);
        }
    }

    private static void personNumberFrom0To9() {
        GlassesOfRue x = new GlassesOfRue();
        for (int number : new int[] {-1, 10, MAX, MIN}) {
            Check.due("NUMBER " + number, x.person(0, number, 0), BAD);
        }
        Check.due("NUMBER 0", x.person(0, 0, 1), 0);
        Check.due("NUMBER 9", x.person(0, 9, 1), 1);
        Check.due("NUMBER of the first", x.told(0, 2), 0);
        Check.due("NUMBER of the second", x.told(1, 2), 9);
    }

    private static void personRueFrom0To999() {
        GlassesOfRue x = new GlassesOfRue();
        for (int rue : new int[] {-1, 1000, MAX, MIN}) {
            Check.due("RUE " + rue, x.person(0, 0, rue), BAD);
        }
        Check.due("RUE 0", x.person(0, 1, 0), 0);
        Check.due("RUE 999", x.person(0, 1, 999), 1);
        Check.due("RUE of the first", x.told(0, 3), 0);
        Check.due("RUE of the second", x.told(1, 3), 999);
    }

    /** "Refusals, the first that the call's words name": "BAD; FULL". */
    private static void personIsBadAheadOfFull() {
        GlassesOfRue x = Check.people(0, 0, 0, 0, 0, 0, 0, 0, 0, 0, 0, 0, 0, 0, 0);
        Check.due("a sixth of KIND 6", x.person(6, 0, 0), BAD);
        Check.due("a sixth of NUMBER 10", x.person(0, 10, 0), BAD);
        Check.due("a sixth of RUE 1000", x.person(0, 0, 1000), BAD);
        Check.due("a sixth", x.person(5, 9, 999), FULL);
    }

    /** "HAD (.. 0 as one comes)": also where another one was, who went as the IMAGE came back. */
    private static void hadIs0AsOneComes() {
        GlassesOfRue x = Check.people(0, 0, 20);
        Check.due("HAD of the first", x.told(0, 4), 0);
        x.image();
        x.person(0, 0, 0);
        x.draw(0, 1, 7);
        Check.due("HAD of the second", x.told(1, 4), 7);
        x.image();
        x.person(0, 0, 0);
        x.set(4, 2, 99);
        x.back();
        x.person(0, 0, 0);
        Check.due("HAD of the second, behind back()", x.told(1, 4), 7);
        Check.due("HAD of the one who came now", x.told(2, 4), 0);
    }

    // ---- what is told

    /** "What 0 .. 4 as of set()" */
    private static void toldAsOfSet() {
        GlassesOfRue x = two();
        int[] most = {999, 9, 9, 999, 999};
        for (int what = 0; what < 5; what++) {
            x.set(what, 1, most[what]);
            Check.due("told " + what, x.told(1, what), most[what]);
        }
        Check.due("the other's NUMBER", x.told(0, 2), 1);
        Check.due("the other's RUE", x.told(0, 3), 1);
        Check.due("the other's HAD", x.told(0, 4), 0);
    }

    private static void toldOfNoSuchOne() {
        GlassesOfRue nobody = new GlassesOfRue();
        GlassesOfRue x = two();
        for (int what = 2; what < 10; what++) {
            Check.due("told of nobody " + what, nobody.told(0, what), BAD);
            for (int of : new int[] {-1, 2, MAX, MIN}) {
                Check.due("told of " + of + ", " + what, x.told(of, what), BAD);
            }
        }
    }

    private static void toldNoSuchWhat() {
        GlassesOfRue x = two();
        for (int what : new int[] {-1, 10, MAX, MIN}) {
            Check.due("told what " + what, x.told(0, what), BAD);
            Check.due("told what " + what + " of nobody", x.told(9, what), BAD);
        }
    }

    // ---- RUNS, CLOGS, RUES

    /** One alone of a KIND, by a rule that tells v for runs and for rues. */
    private static GlassesOfRue one(int kind, int number, int v) {
        GlassesOfRue x = Check.people(kind, number, 0);
        String e = v < 0 ? "0 - " + -v : "" + v;
        Check.rule(x, "runs " + e + "; clogs 0; rues " + e + ";");
        return x;
    }

    private static void runs(int kind, int v, int due) {
        Check.due("RUNS of KIND " + kind + " by " + v, one(kind, 7, v).told(0, 6), due);
    }

    private static void rues(int kind, int number, int v, int due) {
        Check.due("RUES of KIND " + kind + ", NUMBER " + number + " by " + v, one(kind, number, v).told(0, 8), due);
    }

    /** "runs .. (0 .. 99, else the bound)": seen where a BANKER who HAD 999 RUNS 98 less than that. */
    private static void runsTellsFrom0To99() {
        int[][] due = {{97, 0}, {98, 0}, {99, 1}, {100, 1}, {9999, 1}};
        for (int[] d : due) {
            GlassesOfRue x = one(3, 0, d[0]);
            x.set(4, 0, 999);
            Check.due("RUNS of a BANKER who HAD 999 by " + d[0], x.told(0, 6), d[1]);
        }
        runs(1, 0, 1);
        runs(1, -1, 1);
        runs(1, -9999, 1);
    }

    /** "rues (0 .. 99, else the bound)": below, seen where a BANKER RUES NUMBER more. */
    private static void ruesTellsFrom0To99() {
        rues(3, 5, 0, 5);
        rues(3, 5, -1, 5);
        rues(3, 5, -9999, 5);
        rues(0, 5, -1, 0);
        rues(0, 5, 98, 98);
        rues(0, 5, 99, 99);
        rues(0, 5, 100, 99);
        rues(0, 5, 9999, 99);
    }

    /** "PERSON: v"; "RUNS 0 .. 9 .., else the bound" */
    private static void personRuns() {
        runs(0, -1, 0);
        runs(0, 0, 0);
        runs(0, 1, 1);
        runs(0, 8, 8);
        runs(0, 9, 9);
        runs(0, 10, 9);
        runs(0, 9999, 9);
    }

    /** "SCAMP: 1 more than a PERSON" */
    private static void scampRuns() {
        runs(1, 0, 1);
        runs(1, 7, 8);
        runs(1, 8, 9);
        runs(1, 9, 9);
        runs(1, 99, 9);
    }

    /** "SAINT: half (cut) of a PERSON's" */
    private static void saintRunsHalfCut() {
        for (int v = 0; v <= 19; v++) {
            runs(2, v, v / 2);
        }
        runs(2, 20, 9);
        runs(2, 99, 9);
        runs(2, -1, 0);
        runs(2, -3, 0);
    }

    /** "BANKER: as a SCAMP, but HAD by 10 (cut) less"; below 0 it is 0 */
    private static void bankerRunsHadBy10CutLess() {
        GlassesOfRue x = one(3, 7, 4);
        int[][] due = {{0, 5}, {9, 5}, {10, 4}, {19, 4}, {20, 3}, {39, 2}, {40, 1}, {49, 1}, {50, 0}, {59, 0}, {60, 0},
            {999, 0}};
        for (int[] d : due) {
            x.set(4, 0, d[0]);
            Check.due("RUNS of a BANKER who HAD " + d[0], x.told(0, 6), d[1]);
        }
        runs(3, 8, 9);
        runs(3, 9, 9);
        GlassesOfRue y = one(3, 7, 99);
        int[][] high = {{899, 9}, {900, 9}, {909, 9}, {910, 9}, {919, 9}, {920, 8}, {930, 7}};
        for (int[] d : high) {
            y.set(4, 0, d[0]);
            Check.due("RUNS of a BANKER by 99 who HAD " + d[0], y.told(0, 6), d[1]);
        }
    }

    /** "NUN: as a SAINT, but 9, if DAY modulo 7 is NUMBER" */
    private static void nunRuns9OnHerDay() {
        for (int number = 0; number < 10; number++) {
            GlassesOfRue x = one(4, number, 5);
            for (int day : new int[] {0, 1, 5, 6, 7, 8, 13, 14, 500, 993, 994, 998, 999}) {
                x.set(0, 0, day);
                Check.due("RUNS of NUN " + number + " at DAY " + day, x.told(0, 6), day % 7 == number ? 9 : 2);
            }
        }
        GlassesOfRue y = one(4, 3, 99);
        Check.due("as a SAINT, 9 at most", y.told(0, 6), 9);
    }

    /** "CLERK: NUMBER" */
    private static void clerkRuns() {
        for (int number = 0; number < 10; number++) {
            Check.due("RUNS of a CLERK " + number, one(5, number, 0).told(0, 6), number);
            Check.due("RUNS of a CLERK " + number + " by 99", one(5, number, 99).told(0, 6), number);
        }
    }

    private static void clogs(int kind, String clogs, int wet, int had, int due) {
        GlassesOfRue x = Check.people(kind, 1, 1);
        Check.rule(x, "runs 5; clogs " + clogs + "; rues 1;");
        x.set(1, 0, wet);
        x.set(4, 0, had);
        String name = " KIND " + kind + ", clogs " + clogs + ", WET " + wet + ", HAD " + had;
        Check.due("CLOGS," + name, x.told(0, 7), due);
        Check.due("who CLOG," + name, x.all(2), due);
        Check.due("MINUTES," + name, x.told(0, 9), due == 1 ? 0 : x.told(0, 6));
    }

    /** "CLOGS (clogs telling yes, if it isn't 0): PERSON: if yes; .. SAINT: never; NUN: as a SAINT; CLERK: if yes." */
    private static void whoClogs() {
        for (int kind : new int[] {0, 5}) {
            clogs(kind, "0", 9, 999, 0);
            clogs(kind, "1", 0, 0, 1);
            clogs(kind, "0 - 1", 0, 0, 1);
            clogs(kind, "2", 0, 0, 1);
            clogs(kind, "9999", 0, 0, 1);
        }
        clogs(2, "1", 9, 999, 0);
        clogs(4, "1", 9, 999, 0);
    }

    /** "SCAMP: if yes, and WET is above 3" */
    private static void scampClogsAboveWet3() {
        for (int kind : new int[] {1, 3}) {
            clogs(kind, "1", 0, 0, 0);
            clogs(kind, "1", 3, 0, 0);
            clogs(kind, "1", 4, 0, 1);
            clogs(kind, "0 - 1", 9, 0, 1);
            clogs(kind, "0", 4, 0, 0);
            clogs(kind, "0", 9, 0, 0);
        }
    }

    /** "BANKER: as a SCAMP, or if HAD is above 50" */
    private static void bankerClogsAboveHad50() {
        clogs(3, "0", 0, 50, 0);
        clogs(3, "0", 0, 51, 1);
        clogs(3, "0", 9, 999, 1);
        clogs(3, "1", 3, 50, 0);
        clogs(3, "1", 4, 50, 1);
        clogs(3, "1", 3, 51, 1);
        clogs(1, "0", 9, 999, 0);
        clogs(1, "1", 3, 999, 0);
    }

    /** "PERSON: v; SCAMP: twice a PERSON's; SAINT: 0; BANKER: NUMBER more than a SCAMP; NUN: 1 more than a SAINT"; 99 at most */
    private static void ruesByKind() {
        for (int v : new int[] {-1, 0, 1, 49, 50, 99, 100}) {
            int told = Math.max(0, Math.min(99, v));
            rues(0, 9, v, told);
            rues(1, 9, v, Math.min(99, 2 * told));
            rues(2, 9, v, 0);
            rues(3, 0, v, Math.min(99, 2 * told));
            rues(3, 9, v, Math.min(99, 2 * told + 9));
            rues(4, 9, v, 1);
        }
        rues(3, 8, 45, 98);
        rues(3, 9, 45, 99);
        rues(3, 9, 46, 99);
        rues(1, 0, 49, 98);
        rues(1, 0, 50, 99);
    }

    /** "CLERK: as a PERSON, 5 at most" */
    private static void clerkRues5AtMost() {
        rues(5, 9, -1, 0);
        rues(5, 9, 0, 0);
        rues(5, 9, 4, 4);
        rues(5, 9, 5, 5);
        rues(5, 9, 6, 5);
        rues(5, 9, 100, 5);
    }

    /** "6 RUNS (be it clogged or not) .. 9 MINUTES of the GLASS" */
    private static void runsBeItClogged() {
        GlassesOfRue x = Check.people(0, 0, 0);
        Check.rule(x, "runs 5; clogs wet; rues 1;");
        Check.due("RUNS, dry", x.told(0, 6), 5);
        Check.due("MINUTES, dry", x.told(0, 9), 5);
        x.set(1, 0, 1);
        Check.due("RUNS, wet", x.told(0, 6), 5);
        Check.due("MINUTES, wet", x.told(0, 9), 0);
    }
}
