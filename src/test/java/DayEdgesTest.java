/** Terms 2 (A DAY, DRAWN off) and promises 8 to 11: each sentence that names a bound, just inside it and just outside it. */
final class DayEdgesTest {
    private static final int NONE = -1, BAD = -2, STATE = -3, MAX = Check.MAX, MIN = Check.MIN;

    public static void main(String[] args) {
        dayOfNobody();
        rueIs999AtMostByADay();
        allAreToldAheadOfAnyRue();
        toldAtTheDayBefore();
        dayGoesTill999();
        drawFrom0To999();
        drawNotMoreThanRue();
        drawIsBadAheadOfState();
        drawNoSuchTwo();
        drawOneAndTheSame();
        theOtherHas999RueAtMost();
        theOtherHas999HadAtMost();
        theOneHadNothing();
        runDaysFrom0To40();
        runNoSuchOneOrWhat();
        rueIs999AtMostInThought();
        inThoughtDayPasses999();
        runBehindSoManyDays();
        allOfNobody();
        allNoSuchWhat();
        longestOfLikeOnesTheFirst();
        longestIs0IfItClogs();
        whoClogAreBits();
        mostRue();
        Check.finish();
    }

    // ---- day

    private static void dayOfNobody() {
        GlassesOfRue x = new GlassesOfRue();
        Check.due("day of nobody", x.day(), 0);
        Check.due("DAY is 1 more", x.count(1), 1);
        x.set(0, 0, 999);
        Check.due("day of nobody at 999", x.day(), STATE);
    }

    /** "then RUE of each is that much more (999 at most)" */
    private static void rueIs999AtMostByADay() {
        GlassesOfRue x = Check.people(0, 0, 899, 0, 0, 900, 0, 0, 901, 0, 0, 999, 2, 0, 999);
        Check.rule(x, "runs 1;clogs 0;rues 99;");
        Check.due("RUE of all", x.day(), 998 + 4 * 999);
        int[] due = {998, 999, 999, 999, 999};
        for (int one = 0; one < 5; one++) {
            Check.due("RUE of " + one, x.told(one, 3), due[one]);
        }
        Check.due("RUE of all", x.day(), 5 * 999);
    }

    /** "of all it is told how much more is to RUE; then RUE of each is that much more" */
    private static void allAreToldAheadOfAnyRue() {
        for (int much = 0; much < 3; much++) {
            GlassesOfRue x = Check.people(0, 0, 1, 0, 0, 1, 0, 0, 1);
            x.set(3, much, 20);
            Check.rule(x, "runs 1;clogs 0;rues most;");
            Check.due("RUE of all, the most of " + much, x.day(), 22 + 3 * 20);
            Check.due("RUE of all then", x.day(), 82 + 3 * 40);
        }
    }

    /** "DAY is 1 more" behind that: a text that asks for DAY is told the one that ends. */
    private static void toldAtTheDayBefore() {
        GlassesOfRue x = Check.people(0, 0, 0);
        Check.rule(x, "runs 1;clogs 0;rues day;");
        Check.due("by DAY 0", x.day(), 0);
        Check.due("by DAY 1", x.day(), 1);
        Check.due("by DAY 2", x.day(), 3);
        Check.due("in thought by 3, 4", x.run(0, 2, 0), 3 + 3 + 4);
    }

    /** "STATE: DAY is 999." */
    private static void dayGoesTill999() {
        GlassesOfRue x = Check.people(0, 0, 5);
        x.set(0, 0, 997);
        Check.due("day 997", x.day(), 6);
        Check.due("DAY", x.count(1), 998);
        Check.due("day 998", x.day(), 7);
        Check.due("DAY", x.count(1), 999);
        Check.due("day 999", x.day(), STATE);
        Check.due("DAY stays", x.count(1), 999);
        Check.due("RUE stays", x.count(2), 7);
        x.set(0, 0, 998);
        Check.due("day 998, again", x.day(), 8);
    }

    // ---- draw

    private static GlassesOfRue rich() {
        return Check.people(0, 0, 999, 0, 0, 0, 0, 0, 10);
    }

    private static void drawFrom0To999() {
        GlassesOfRue x = rich();
        for (int v : new int[] {-1, 1000, MAX, MIN}) {
            Check.due("draw " + v, x.draw(0, 1, v), BAD);
        }
        Check.due("draw 0", x.draw(0, 1, 0), 999);
        Check.due("RUE of the other", x.told(1, 3), 0);
        Check.due("draw 999", x.draw(0, 1, 999), 0);
        Check.due("RUE of the other", x.told(1, 3), 999);
        Check.due("HAD of the other", x.told(1, 4), 999);
        Check.due("draw 0 of nothing", x.draw(0, 1, 0), 0);
    }

    /** "STATE: the one has less RUE." */
    private static void drawNotMoreThanRue() {
        GlassesOfRue x = rich();
        Check.due("one more than there is", x.draw(2, 1, 11), STATE);
        Check.due("RUE of the one stays", x.told(2, 3), 10);
        Check.due("RUE of the other stays", x.told(1, 3), 0);
        Check.due("HAD of the other stays", x.told(1, 4), 0);
        Check.due("one less than there is", x.draw(2, 1, 9), 1);
        Check.due("what there is", x.draw(2, 1, 1), 0);
        Check.due("where nothing is", x.draw(2, 1, 1), STATE);
        Check.due("999 where nothing is", x.draw(2, 1, 999), STATE);
    }

    private static void drawIsBadAheadOfState() {
        GlassesOfRue x = rich();
        Check.due("1000 of 10", x.draw(2, 1, 1000), BAD);
        Check.due("11 of 10, to itself", x.draw(2, 2, 11), BAD);
        Check.due("11 of 10, to nobody", x.draw(2, 3, 11), BAD);
    }

    private static void drawNoSuchTwo() {
        GlassesOfRue x = rich();
        GlassesOfRue alone = Check.people(0, 0, 5);
        for (int v : new int[] {-1, 3, 5, MAX, MIN}) {
            Check.due("draw from " + v, x.draw(v, 0, 0), BAD);
            Check.due("draw to " + v, x.draw(0, v, 0), BAD);
        }
        Check.due("draw to the last", x.draw(0, 2, 1), 998);
        Check.due("draw from the last", x.draw(2, 0, 1), 10);
        Check.due("draw when one is there", alone.draw(0, 1, 1), BAD);
        Check.due("draw when nobody is there", new GlassesOfRue().draw(0, 1, 0), BAD);
    }

    private static void drawOneAndTheSame() {
        GlassesOfRue x = rich();
        for (int one = 0; one < 3; one++) {
            Check.due("from one to the same, 0", x.draw(one, one, 0), BAD);
            Check.due("from one to the same, 1", x.draw(one, one, 1), BAD);
            Check.due("HAD", x.told(one, 4), 0);
        }
        Check.due("RUE of all", x.count(2), 1009);
    }

    /** "(whose RUE is 999 at most)": what is beyond is lost. */
    private static void theOtherHas999RueAtMost() {
        int[][] due = {{988, 998}, {989, 999}, {990, 999}, {999, 999}};
        for (int[] d : due) {
            GlassesOfRue x = Check.people(0, 0, 20, 0, 0, d[0]);
            Check.due("RUE of the one", x.draw(0, 1, 10), 10);
            Check.due("RUE of the other", x.told(1, 3), d[1]);
            Check.due("HAD of the other", x.told(1, 4), 10);
        }
    }

    /** "whose HAD is as much more (999 at most)" */
    private static void theOtherHas999HadAtMost() {
        int[][] due = {{988, 998}, {989, 999}, {990, 999}, {999, 999}};
        for (int[] d : due) {
            GlassesOfRue x = Check.people(0, 0, 20, 0, 0, 3);
            x.set(4, 1, d[0]);
            x.draw(0, 1, 10);
            Check.due("HAD of the other", x.told(1, 4), d[1]);
            Check.due("RUE of the other", x.told(1, 3), 13);
        }
    }

    private static void theOneHadNothing() {
        GlassesOfRue x = rich();
        x.set(4, 0, 44);
        x.draw(0, 2, 7);
        Check.due("HAD of the one stays", x.told(0, 4), 44);
        Check.due("HAD of a third stays", x.told(1, 4), 0);
        Check.due("RUE of a third stays", x.told(1, 3), 0);
    }

    // ---- run

    /** "n DAYS (0 .. 40)" */
    private static void runDaysFrom0To40() {
        GlassesOfRue x = Check.people(0, 0, 1, 1, 0, 2);
        for (int what = 0; what < 3; what++) {
            for (int n : new int[] {-1, 41, MAX, MIN}) {
                Check.due("run " + n + " DAYS, " + what, x.run(0, n, what), BAD);
            }
        }
        Check.due("RUE behind 0", x.run(0, 0, 0), 1);
        Check.due("MINUTES behind 0", x.run(0, 0, 1), 2);
        Check.due("RUE of all behind 0", x.run(0, 0, 2), 3);
        Check.due("RUE behind 39", x.run(0, 39, 0), 40);
        Check.due("RUE behind 40", x.run(0, 40, 0), 41);
        Check.due("MINUTES behind 40", x.run(0, 40, 1), 9);
        Check.due("RUE of all behind 40", x.run(0, 40, 2), 41 + 82);
    }

    private static void runNoSuchOneOrWhat() {
        GlassesOfRue x = Check.people(0, 0, 1, 1, 0, 2);
        for (int v : new int[] {-1, 2, MAX, MIN}) {
            for (int what = 0; what < 3; what++) {
                Check.due("run of " + v + ", " + what, x.run(v, 0, what), BAD);
            }
        }
        for (int what : new int[] {-1, 3, MAX, MIN}) {
            Check.due("run what " + what, x.run(0, 0, what), BAD);
        }
        Check.due("run of the last", x.run(1, 1, 0), 4);
    }

    private static void rueIs999AtMostInThought() {
        GlassesOfRue x = Check.people(0, 0, 960, 0, 0, 958);
        Check.due("960 behind 38", x.run(0, 38, 0), 998);
        Check.due("960 behind 39", x.run(0, 39, 0), 999);
        Check.due("960 behind 40", x.run(0, 40, 0), 999);
        Check.due("958 behind 40", x.run(1, 40, 0), 998);
        Check.due("together", x.run(0, 40, 2), 999 + 998);
    }

    /** "in thought (there DAY may pass 999)" */
    private static void inThoughtDayPasses999() {
        GlassesOfRue x = Check.people(0, 0, 0, 4, 0, 0);
        x.set(0, 0, 999);
        Check.rule(x, "runs day - 1000;clogs 0;rues 999 < day;");
        int[] runs = {0, 0, 1, 2, 3};
        for (int n = 0; n < 5; n++) {
            Check.due("MINUTES at DAY " + (999 + n), x.run(0, n, 1), runs[n]);
            Check.due("RUE at DAY " + (999 + n), x.run(0, n, 0), Math.max(0, n - 1));
        }
        Check.due("MINUTES at DAY 1039", x.run(0, 40, 1), 9);
        Check.due("RUE at DAY 1039", x.run(0, 40, 0), 39);
        Check.due("a NUN at DAY 1000 (modulo 7: 6)", x.run(1, 1, 1), 0);
        Check.due("a NUN at DAY 1001 (modulo 7: 0)", x.run(1, 2, 1), 9);
        Check.due("a NUN at DAY 1002 (modulo 7: 1)", x.run(1, 3, 1), 1);
        Check.due("DAY is as it was", x.count(1), 999);
    }

    private static void runBehindSoManyDays() {
        GlassesOfRue x = Check.people(3, 4, 10, 0, 0, 3);
        GlassesOfRue y = Check.people(3, 4, 10, 0, 0, 3);
        for (int n = 0; n <= 40; n++) {
            Check.due("RUE behind " + n, x.run(0, n, 0), y.told(0, 3));
            Check.due("MINUTES behind " + n, x.run(1, n, 1), y.told(1, 9));
            Check.due("RUE of all behind " + n, x.run(1, n, 2), y.count(2));
            y.day();
        }
    }

    // ---- all

    private static void allOfNobody() {
        GlassesOfRue x = new GlassesOfRue();
        Check.due("LONGEST of nobody", x.all(0), NONE);
        Check.due("MINUTES of nobody", x.all(1), 0);
        Check.due("who CLOG of nobody", x.all(2), 0);
        Check.due("the most RUE of nobody", x.all(3), 0);
    }

    private static void allNoSuchWhat() {
        for (int what : new int[] {-1, 4, MAX, MIN}) {
            Check.due("all " + what, Check.people(0, 0, 0).all(what), BAD);
            Check.due("all of nobody " + what, new GlassesOfRue().all(what), BAD);
        }
    }

    /** "LONGEST: whose GLASS RUNS longest ..; of like ones the first" */
    private static void longestOfLikeOnesTheFirst() {
        GlassesOfRue x = Check.people(5, 4, 0, 5, 4, 0, 5, 4, 0, 5, 4, 0, 5, 4, 0);
        Check.due("all alike", x.all(0), 0);
        for (int one = 1; one < 5; one++) {
            x.set(2, one, 5 + one);
            Check.due("one more", x.all(0), one);
            Check.due("its MINUTES", x.all(1), 5 + one);
        }
        x.set(2, 2, 9);
        Check.due("the first of two", x.all(0), 2);
        x.set(2, 2, 8);
        Check.due("the longest of all", x.all(0), 4);
        for (int one = 0; one < 5; one++) {
            x.set(2, one, 0);
        }
        Check.due("all of no sand", x.all(0), 0);
        Check.due("its MINUTES", x.all(1), 0);
    }

    /** "(0, if it CLOGS)" */
    private static void longestIs0IfItClogs() {
        GlassesOfRue x = Check.people(0, 1, 0, 2, 1, 0, 0, 0, 0);
        Check.rule(x, "runs 6;clogs number;rues 1;");
        Check.due("the first and second are no more than 0, 3", x.all(0), 2);
        Check.due("its MINUTES", x.all(1), 6);
        x.set(2, 2, 1);
        Check.due("the SAINT, who never CLOGS", x.all(0), 1);
        Check.due("its MINUTES", x.all(1), 3);
        GlassesOfRue y = Check.people(0, 0, 0, 0, 0, 0);
        Check.rule(y, "runs 6;clogs 1;rues 1;");
        Check.due("all are clogged", y.all(0), 0);
        Check.due("its MINUTES", y.all(1), 0);
    }

    private static void whoClogAreBits() {
        GlassesOfRue x = Check.people(0, 0, 0, 0, 0, 0, 0, 0, 0, 0, 0, 0, 0, 0, 0);
        Check.rule(x, "runs 6;clogs number;rues 1;");
        Check.due("none", x.all(2), 0);
        for (int one = 0; one < 5; one++) {
            x.set(2, one, 1);
            Check.due("who CLOG till " + one, x.all(2), (2 << one) - 1);
        }
        x.set(2, 2, 0);
        Check.due("all but the third", x.all(2), 27);
    }

    private static void mostRue() {
        GlassesOfRue x = Check.people(2, 0, 0, 0, 0, 0, 5, 0, 0);
        Check.due("nothing is to rue", x.all(3), 0);
        for (int one = 0; one < 3; one++) {
            x.set(3, one, 997 + one);
            Check.due("the most RUE", x.all(3), 997 + one);
        }
    }
}
