/** Terms 2 (TOLD, DRAWN, AN IMAGE) and promises 16 to 22: each sentence that names a bound, just inside it and just outside it. */
final class GlassesEdgesTest {
    private static final int NONE = -1, BAD = -2, STATE = -3, NOTHING = -11, OUTSIDE = -12, MAX = Check.MAX, MIN = Check.MIN;
    private static final long NO = -(1L << 62);

    public static void main(String[] args) {
        tellsOneOfFourSheets();
        tellsNoSuchOneOrWhat();
        tellsRefusesInItsOrder();
        tells30NumbersAtMost();
        firstThatIsOtherwise();
        anEmptySheetIsAlwaysSo();
        kindsAreBits0To5();
        numbersAreBits0To9();
        wetsAreBits0To9();
        rueFrom0To99();
        textsAreBits();
        peopleAreBits();
        cloggedIs0();
        tellsPasses999();
        tellsNumbersBeyondAnyGlass();
        filmFrom0To30();
        filmOnOneOfFourSheets();
        filmNoSuchOne();
        filmTrulyBecomes();
        filmIsOfBytes();
        filmPasses999();
        drawnFrom0To40();
        wetIsDrawnAheadOfEachDay();
        drawnIsToldBehindTheDay();
        drawnSeedsWrap();
        drawnPasses999();
        chanceIn1To20();
        chanceOf0To99();
        chanceKOrMore();
        chanceParts();
        chanceInLowestTerms();
        chanceSeedsWrap();
        imageOfNobody();
        backWithoutAnImage();
        imageKeeps();
        imageKeepsNothingElse();
        peopleThatCameSinceGo();
        theLastImageIsKept();
        countOfNothing();
        countOfAll();
        countNoSuchWhat();
        Check.finish();
    }

    // ---- tells

    private static void tellsOneOfFourSheets() {
        GlassesOfRue x = Check.people(5, 0, 0);
        for (int sheet = 0; sheet < 4; sheet++) {
            for (int what = 0; what < 8; what++) {
                Check.due("tells by missing SHEET " + sheet, x.tells(sheet, 0, what), NOTHING);
            }
            x.sheet(sheet, sheet % 3, 1);
            Check.due("tells by SHEET " + sheet, x.tells(sheet, 0, 0), NONE);
            x.cell(sheet, 0, 1);
            Check.due("tells by SHEET " + sheet, x.tells(sheet, 0, 0), 0);
        }
        for (int sheet : new int[] {-1, 4, MAX, MIN}) {
            Check.due("tells by SHEET " + sheet, x.tells(sheet, 0, 0), BAD);
        }
    }

    private static void tellsNoSuchOneOrWhat() {
        GlassesOfRue x = Check.people(5, 0, 0, 5, 0, 0);
        x.sheet(0, 0, 1);
        for (int one : new int[] {-1, 2, MAX, MIN}) {
            for (int what = 0; what < 8; what++) {
                Check.due("tells of " + one, x.tells(0, one, what), BAD);
            }
        }
        for (int what : new int[] {-1, 8, MAX, MIN}) {
            Check.due("tells what " + what, x.tells(0, 0, what), BAD);
        }
        Check.due("tells of the last", x.tells(0, 1, 0), NONE);
        GlassesOfRue nobody = new GlassesOfRue();
        nobody.sheet(0, 0, 1);
        Check.due("tells of nobody", nobody.tells(0, 0, 7), BAD);
    }

    /** "BAD: SHEET, none such, what; -11; BAD: it tells more than 30." */
    private static void tellsRefusesInItsOrder() {
        GlassesOfRue x = Check.people(5, 0, 0);
        x.sheet(0, 0, 31);
        Check.due("a missing SHEET, none such", x.tells(1, 1, 0), BAD);
        Check.due("a missing SHEET, no such what", x.tells(1, 0, 8), BAD);
        Check.due("a missing SHEET", x.tells(1, 0, 7), NOTHING);
        Check.due("a long SHEET, none such", x.tells(0, 1, 0), BAD);
        Check.due("a long SHEET", x.tells(0, 0, 7), BAD);
    }

    /** "(30 at most numbers ..)" */
    private static void tells30NumbersAtMost() {
        GlassesOfRue x = Check.people(5, 0, 0);
        for (int sort = 0; sort < 3; sort++) {
            for (int what = 0; what < 8; what++) {
                x.sheet(0, sort, 29);
                Check.due("29 numbers, " + what, x.tells(0, 0, what) == BAD ? 1 : 0, 0);
                x.sheet(0, sort, 30);
                Check.due("30 numbers, " + what, x.tells(0, 0, what) == BAD ? 1 : 0, 0);
                x.sheet(0, sort, 31);
                Check.due("31 numbers, " + what, x.tells(0, 0, what), BAD);
                x.sheet(0, sort, 40);
                Check.due("40 numbers, " + what, x.tells(0, 0, what), BAD);
            }
        }
        x.sheet(0, 0, 30);
        x.cell(0, 29, 1);
        Check.due("the 30th is otherwise", x.tells(0, 0, 0), 29);
    }

    /** "the first (from 0) that is otherwise; NONE" */
    private static void firstThatIsOtherwise() {
        GlassesOfRue x = Check.people(0, 0, 2);
        Check.row(x, 0, 3, 4, 5, 6);
        Check.due("none", x.tells(0, 0, 0), NONE);
        for (int i = 3; i >= 0; i--) {
            x.cell(0, i, 9);
            Check.due("the first of " + (4 - i), x.tells(0, 0, 0), i);
        }
    }

    private static void anEmptySheetIsAlwaysSo() {
        GlassesOfRue x = Check.people(0, 0, 2, 3, 0, 5);
        Check.text(x, "runs1;clogs1;rues1;");
        int[] due = {NONE, 63, 1023, 1023, 100, 0, 3, 3};
        for (int sort = 0; sort < 3; sort++) {
            x.sheet(sort, sort, 0);
            for (int what = 0; what < 8; what++) {
                Check.due("tells " + what + " by nothing", x.tells(sort, 1, what), due[what]);
            }
        }
    }

    /** "KINDS (bits 0 .. 5)": each KIND alone, by a row that no other one has. */
    private static void kindsAreBits0To5() {
        for (int kind = 0; kind < 6; kind++) {
            GlassesOfRue x = Check.people(kind, 2, 2, (kind + 1) % 6, 2, 2);
            Check.text(x, "runs rue;clogs 0;rues 1;");
            x.force(1);
            x.film(0, 0, 8);
            Check.due("KIND " + kind + " of itself", x.tells(0, 0, 1), 1 << kind);
            Check.due("KIND " + kind + " of another", x.tells(0, 1, 1), 1 << kind);
            Check.due("KIND is as it was", x.told(1, 5), (kind + 1) % 6);
        }
        GlassesOfRue x = Check.people(0, 9, 99);
        Check.row(x, 0, 9, 9, 9);
        Check.due("all", x.tells(0, 0, 1), 63);
        Check.row(x, 0, 9, 9, 8);
        Check.due("none", x.tells(0, 0, 1), 0);
        x.set(4, 0, 51);
        Check.row(x, 0, 0, 0);
        Check.due("a BANKER who HAD as much", x.tells(0, 0, 1), 8);
    }

    /** "NUMBERS (bits 0 .. 9)" */
    private static void numbersAreBits0To9() {
        GlassesOfRue x = Check.people(5, 4, 0);
        for (int v = 0; v < 10; v++) {
            Check.row(x, 0, v);
            Check.due("NUMBER " + v, x.tells(0, 0, 2), 1 << v);
        }
        Check.row(x, 0, 10);
        Check.due("none", x.tells(0, 0, 2), 0);
        Check.row(x, 0, -1);
        Check.due("none", x.tells(0, 0, 2), 0);
        Check.due("NUMBER is as it was", x.told(0, 2), 4);
    }

    /** "WETS (bits 0 .. 9)" */
    private static void wetsAreBits0To9() {
        GlassesOfRue x = Check.people(0, 4, 0);
        Check.rule(x, "runs wet;clogs 0;rues 0;");
        x.set(1, 0, 3);
        for (int v = 0; v < 10; v++) {
            Check.row(x, 0, v, v);
            Check.due("WET " + v, x.tells(0, 0, 3), 1 << v);
        }
        Check.row(x, 0, 3, 4);
        Check.due("none", x.tells(0, 0, 3), 0);
        Check.due("WET is as it was", x.told(0, 1), 3);
    }

    /** "RUE (of 0 .. 99: how many, the least)"; "5; NONE" */
    private static void rueFrom0To99() {
        GlassesOfRue x = Check.people(0, 0, 500);
        Check.rule(x, "runs rue = 0;clogs 0;rues 0;");
        Check.rule(x, "runs rue = 99;clogs 0;rues 0;");
        Check.rule(x, "runs rue = 100;clogs 0;rues 0;");
        Check.rule(x, "runs 49 < rue;clogs 0;rues 0;");
        Check.row(x, 0, 1);
        int[] many = {1, 1, 0, 50};
        int[] least = {0, 99, NONE, 50};
        for (int rule = 1; rule < 5; rule++) {
            x.force(rule);
            Check.due("RUE by " + rule + ": how many", x.tells(0, 0, 4), many[rule - 1]);
            Check.due("RUE by " + rule + ": the least", x.tells(0, 0, 5), least[rule - 1]);
        }
        Check.row(x, 0, 0);
        x.force(4);
        Check.due("RUE 0 .. 49: how many", x.tells(0, 0, 4), 50);
        Check.due("RUE 0 .. 49: the least", x.tells(0, 0, 5), 0);
        x.force(3);
        Check.due("RUE 0 .. 99: how many", x.tells(0, 0, 4), 100);
        Check.due("RUE is as it was", x.told(0, 3), 500);
    }

    /** "TEXTS (bits), were they THE RULE": those that there are. */
    private static void textsAreBits() {
        GlassesOfRue x = Check.people(0, 0, 0);
        Check.row(x, 0, 1);
        for (int i = 1; i <= 5; i++) {
            Check.due("TEXTS", x.tells(0, 0, 6), (1 << i) - 1);
            Check.text(x, "runs 1;clogs 0;rues 1;");
        }
        Check.due("all of six", x.tells(0, 0, 6), 63);
        Check.due("THE RULE is as it was", x.count(5), 0);
        Check.row(x, 0, 1, 1);
        Check.due("all but TEXT 0", x.tells(0, 0, 6), 62);
        Check.row(x, 0, 1, 2);
        Check.due("TEXT 0", x.tells(0, 0, 6), 1);
        Check.row(x, 0, 2);
        Check.due("none", x.tells(0, 0, 6), 0);
    }

    /** "PEOPLE (bits) of whom it is so" */
    private static void peopleAreBits() {
        GlassesOfRue x = new GlassesOfRue();
        Check.row(x, 0, 7);
        for (int i = 0; i < 5; i++) {
            x.person(5, 7, 0);
            Check.due("PEOPLE", x.tells(0, 0, 7), (2 << i) - 1);
        }
        x.set(2, 2, 6);
        for (int one = 0; one < 5; one++) {
            Check.due("PEOPLE, whomever one asks", x.tells(0, one, 7), 27);
        }
        Check.row(x, 0, 6);
        Check.due("the third", x.tells(0, 0, 7), 4);
        Check.row(x, 0, 5);
        Check.due("none", x.tells(0, 0, 7), 0);
    }

    /** "0, if it CLOGS" */
    private static void cloggedIs0() {
        GlassesOfRue x = Check.people(0, 0, 0);
        Check.rule(x, "runs 5;clogs day = 1;rues 1;");
        Check.row(x, 0, 5, 0, 5);
        Check.due("clogged at DAY 1", x.tells(0, 0, 0), NONE);
        Check.row(x, 0, 5, 5, 5);
        Check.due("clogged at DAY 1, it isn't 5", x.tells(0, 0, 0), 1);
        Check.row(x, 0, 0);
        Check.due("not clogged at DAY 0", x.tells(0, 0, 0), 0);
    }

    private static void tellsPasses999() {
        GlassesOfRue x = Check.people(0, 0, 0);
        Check.rule(x, "runs day - 998;clogs 0;rues 1;");
        x.set(0, 0, 999);
        Check.row(x, 0, 1, 2, 3, 4, 5, 6, 7, 8, 9, 9, 9, 9, 9, 9, 9, 9, 9, 9, 9, 9, 9, 9, 9, 9, 9, 9, 9, 9, 9, 9);
        Check.due("till DAY 1028", x.tells(0, 0, 0), NONE);
        Check.due("DAY is as it was", x.count(1), 999);
    }

    private static void tellsNumbersBeyondAnyGlass() {
        GlassesOfRue x = Check.people(0, 0, 999);
        for (int v : new int[] {10, 99, 256 + 9, 65536 + 9, -1, MAX, MIN}) {
            Check.row(x, 0, v);
            Check.due("no GLASS RUNS " + v, x.tells(0, 0, 0), 0);
        }
        Check.row(x, 0, 9);
        Check.due("a GLASS RUNS 9", x.tells(0, 0, 0), NONE);
    }

    // ---- film

    /** "(n 0 .. 30; ..): n. BAD." */
    private static void filmFrom0To30() {
        GlassesOfRue x = Check.people(0, 0, 0);
        for (int n : new int[] {-1, 31, MAX, MIN}) {
            Check.due("film of " + n, x.film(0, 0, n), BAD);
            Check.due("the SHEET is missing still", x.cell(0, 0, 0), NOTHING);
        }
        for (int n = 30; n >= 0; n--) {
            Check.due("film of " + n, x.film(0, 0, n), n);
            Check.due("has no item " + n, x.cell(0, n, 0), OUTSIDE);
            Check.due("is so", x.tells(0, 0, 0), NONE);
            if (n > 0) {
                Check.due("has item " + (n - 1), x.cell(0, n - 1, 77), 1);
                Check.due("isn't so then", x.tells(0, 0, 0), n - 1);
            }
        }
    }

    private static void filmOnOneOfFourSheets() {
        GlassesOfRue x = Check.people(0, 0, 0);
        for (int sheet : new int[] {-1, 4, MAX, MIN}) {
            Check.due("film on SHEET " + sheet, x.film(sheet, 0, 1), BAD);
        }
        for (int sheet = 0; sheet < 4; sheet++) {
            Check.due("film on SHEET " + sheet, x.film(sheet, 0, 2), 2);
            Check.due("is so", x.tells(sheet, 0, 0), NONE);
        }
    }

    private static void filmNoSuchOne() {
        GlassesOfRue x = Check.people(0, 0, 0, 5, 7, 0);
        for (int one : new int[] {-1, 2, MAX, MIN}) {
            Check.due("film of " + one, x.film(0, one, 0), BAD);
        }
        Check.due("film of nobody", new GlassesOfRue().film(0, 0, 0), BAD);
        Check.due("film of the last", x.film(0, 1, 3), 3);
        Check.due("is so", x.tells(0, 1, 2), 128);
    }

    /** "A SHEET truly becomes MINUTES .. behind 0, .., n less 1 DAYS": whatever it was; else nothing becomes. */
    private static void filmTrulyBecomes() {
        GlassesOfRue x = Check.people(3, 4, 1, 0, 0, 6);
        Check.row(x, 0, 1, 2, 3, 4, 5);
        Check.due("film", x.film(0, 1, 3), 3);
        Check.due("has 3", x.cell(0, 3, 0), OUTSIDE);
        Check.row(x, 1, 7, 8, 9);
        Check.due("the row is so", x.tells(1, 1, 0), NONE);
        Check.due("the film is so", x.tells(0, 1, 0), NONE);
        Check.due("RUE is as it was", x.count(2), 7);
        Check.due("DAY is as it was", x.count(1), 0);
        Check.due("film of none", x.film(0, 1, 0), 0);
        Check.due("has none", x.cell(0, 0, 0), OUTSIDE);
    }

    private static void filmIsOfBytes() {
        GlassesOfRue x = Check.people(5, 5, 0);
        x.sheet(0, 2, 3);
        x.film(0, 0, 2);
        Check.due("bytes", x.people(0, 0, 0, 0), 0);
        Check.due("no shorts", x.people(0, 1, 0, 0), -13);
        Check.due("no ints", x.people(0, 2, 0, 0), -13);
        x.cell(0, 0, 256 + 5);
        Check.due("lowest 8 bits", x.tells(0, 0, 0), NONE);
    }

    private static void filmPasses999() {
        GlassesOfRue x = Check.people(0, 0, 0);
        Check.rule(x, "runs day - 1000;clogs 0;rues 1;");
        x.set(0, 0, 999);
        Check.due("film", x.film(0, 0, 4), 4);
        Check.row(x, 1, 0, 0, 1, 2);
        Check.due("till DAY 1002", x.tells(1, 0, 0), NONE);
        x.cell(0, 2, 2);
        Check.due("the film told 1 at DAY 1001", x.tells(0, 0, 0), 2);
    }

    // ---- drawn

    private static int next(int z) {
        return z * 1103515245 + 12345;
    }

    private static int wet(int z) {
        return (z >>> 9) % 10;
    }

    /** "n DAYS (0 .. 40)" */
    private static void drawnFrom0To40() {
        GlassesOfRue x = Check.people(0, 0, 0, 0, 0, 0, 0, 0, 0, 0, 0, 0, 0, 0, 0);
        Check.rule(x, "runs 1;clogs 1;rues 1;");
        for (int n : new int[] {-1, 41, MAX, MIN}) {
            Check.due("drawn in " + n, x.drawn(1, n), BAD);
        }
        for (int n : new int[] {0, 1, 39, 40}) {
            Check.due("drawn in " + n, x.drawn(1, n), 5 * n);
        }
        GlassesOfRue nobody = new GlassesOfRue();
        Check.due("drawn of nobody", nobody.drawn(1, 40), 0);
        Check.due("drawn of nobody in 41", nobody.drawn(1, 41), BAD);
    }

    /** "ahead of each WET would be (z >>> 9) % 10, z being z * 1103515245 + 12345 .. anew for each" */
    private static void wetIsDrawnAheadOfEachDay() {
        for (int v = 0; v < 10; v++) {
            GlassesOfRue x = Check.people(0, 0, 0);
            Check.rule(x, "runs 1;clogs wet = " + v + ";rues 1;");
            int z = 4711 * v;
            int due = 0;
            for (int n = 0; n <= 40; n++) {
                Check.due("drawn: WET " + v + " in " + n, x.drawn(4711 * v, n), due);
                z = next(z);
                due += wet(z) == v ? 1 : 0;
            }
            Check.due("WET is as it was", x.told(0, 1), 0);
        }
        // The DAY itself is told by the WET that was drawn ahead of it.
        GlassesOfRue x = Check.people(0, 0, 0);
        Check.rule(x, "runs 1;clogs rue;rues wet = " + wet(next(99)) + ";");
        x.set(1, 0, (wet(next(99)) + 1) % 10);
        Check.due("RUE came by the WET drawn", x.drawn(99, 1), 1);
    }

    /** "(told behind that)" */
    private static void drawnIsToldBehindTheDay() {
        GlassesOfRue x = Check.people(0, 0, 0);
        Check.rule(x, "runs 1;clogs 2 < day;rues 1;");
        int[] due = {0, 0, 0, 1, 2, 3};
        for (int n = 0; n < 6; n++) {
            Check.due("CLOGS from DAY 3 on, in " + n, x.drawn(7, n), due[n]);
        }
        Check.rule(x, "runs 1;clogs rue = 1;rues 1;");
        int[] once = {0, 1, 1, 1};
        for (int n = 0; n < 4; n++) {
            Check.due("CLOGS at RUE 1, in " + n, x.drawn(7, n), once[n]);
        }
    }

    /** "(an int; SEED at first)": any int; >>> takes it for positive. */
    private static void drawnSeedsWrap() {
        for (int seed : new int[] {0, 1, -1, MAX, MIN, MIN + 1, 123456789, -123456789}) {
            GlassesOfRue x = Check.people(0, 0, 0);
            Check.rule(x, "runs 1;clogs 4 < wet;rues 1;");
            int z = seed;
            int due = 0;
            for (int n = 0; n <= 20; n++) {
                Check.due("drawn by " + seed + " in " + n, x.drawn(seed, n), due);
                z = next(z);
                due += wet(z) > 4 ? 1 : 0;
            }
        }
    }

    private static void drawnPasses999() {
        GlassesOfRue x = Check.people(0, 0, 998);
        Check.rule(x, "runs 1;clogs 1000 < day and rue = 999;rues 9;");
        x.set(0, 0, 998);
        Check.due("till DAY 1000", x.drawn(3, 2), 0);
        Check.due("till DAY 1001", x.drawn(3, 3), 1);
        Check.due("till DAY 1038", x.drawn(3, 40), 38);
        Check.due("DAY is as it was", x.count(1), 998);
        Check.due("RUE is as it was", x.count(2), 998);
    }

    // ---- chance

    private static GlassesOfRue wetOne() {
        GlassesOfRue x = Check.people(0, 0, 0);
        Check.rule(x, "runs 1;clogs 4 < wet;rues 1;");
        return x;
    }

    /** "IN m seeds (1 .. 20)"; "NO: m" */
    private static void chanceIn1To20() {
        GlassesOfRue x = wetOne();
        for (int m : new int[] {0, -1, 21, MAX, MIN}) {
            Check.due("in " + m, x.chance(0, m, 0, 0), NO);
            Check.due("in " + m, x.chance(0, m, 0, 1), NO);
        }
        for (int m : new int[] {1, 2, 19, 20}) {
            Check.due("all of " + m, x.chance(0, m, 0, 0), 1);
            Check.due("all of " + m + ", below the line", x.chance(0, m, 0, 1), 1);
            Check.due("none of " + m, x.chance(0, m, 11, 0), 0);
            Check.due("none of " + m + ", below the line", x.chance(0, m, 11, 1), 1);
        }
    }

    /** "k (0 .. 99)" */
    private static void chanceOf0To99() {
        GlassesOfRue x = wetOne();
        for (int k : new int[] {-1, 100, MAX, MIN}) {
            Check.due("k " + k, x.chance(0, 1, k, 0), NO);
        }
        Check.due("k 0", x.chance(0, 1, 0, 0), 1);
        Check.due("k 99", x.chance(0, 1, 99, 0), 0);
        GlassesOfRue nobody = new GlassesOfRue();
        Check.due("k 0 of nobody", nobody.chance(0, 20, 0, 0), 1);
        Check.due("k 1 of nobody", nobody.chance(0, 20, 1, 0), 0);
    }

    /** "10 DAYS: of these those by which that is k .. or more" */
    private static void chanceKOrMore() {
        GlassesOfRue x = Check.people(0, 0, 0, 0, 0, 0, 0, 0, 0, 0, 0, 0, 0, 0, 0);
        Check.rule(x, "runs 1;clogs 1;rues 1;");
        Check.due("49 of 50", x.chance(0, 1, 49, 0), 1);
        Check.due("50 of 50", x.chance(0, 1, 50, 0), 1);
        Check.due("51 of 50", x.chance(0, 1, 51, 0), 0);
        GlassesOfRue y = wetOne();
        for (int seed = -3; seed < 30; seed++) {
            int many = y.drawn(seed, 10);
            Check.due("as many as there are", y.chance(seed, 1, many, 0), 1);
            Check.due("one more than there are", y.chance(seed, 1, many + 1, 0), 0);
        }
    }

    private static void chanceParts() {
        GlassesOfRue x = wetOne();
        for (int part : new int[] {-1, 2, MAX, MIN}) {
            Check.due("part " + part, x.chance(0, 1, 0, part), NO);
        }
    }

    /** "part 0 above, 1 below the line, in lowest terms" */
    private static void chanceInLowestTerms() {
        int seen = 0;
        for (int m = 1; m <= 20; m++) {
            GlassesOfRue x = wetOne();
            int[] many = new int[m];
            for (int i = 0; i < m; i++) {
                many[i] = x.drawn(100 + i, 10);
            }
            for (int k = 0; k <= 11; k++) {
                int above = 0;
                for (int i = 0; i < m; i++) {
                    above += many[i] >= k ? 1 : 0;
                }
                int shared = java.math.BigInteger.valueOf(above).gcd(java.math.BigInteger.valueOf(m)).intValue();
                Check.due("above the line, " + above + " of " + m, x.chance(100, m, k, 0), above / shared);
                Check.due("below the line, " + above + " of " + m, x.chance(100, m, k, 1), m / shared);
                seen |= above > 0 && above < m && shared > 1 ? 1 : 0;
                seen |= above > 1 && shared == 1 ? 2 : 0;
            }
        }
        Check.due("some had lower terms, some hadn't", seen, 3);
    }

    /** "SEED and each 1 more (an int)": behind the greatest comes the least. */
    private static void chanceSeedsWrap() {
        GlassesOfRue x = wetOne();
        for (int k = 0; k <= 10; k++) {
            int above = 0;
            for (int seed : new int[] {MAX - 2, MAX - 1, MAX, MIN, MIN + 1, MIN + 2, MIN + 3}) {
                above += x.drawn(seed, 10) >= k ? 1 : 0;
            }
            int whole = above == 0 || above == 7 ? 1 : 7;
            Check.due("above the line", x.chance(MAX - 2, 7, k, 0), above * whole / 7);
            Check.due("below the line", x.chance(MAX - 2, 7, k, 1), whole);
        }
    }

    // ---- image, back

    private static void imageOfNobody() {
        GlassesOfRue x = new GlassesOfRue();
        Check.due("image", x.image(), 0);
        Check.due("back", x.back(), 0);
        x.person(0, 0, 0);
        Check.due("back", x.back(), 0);
        Check.due("PEOPLE", x.count(0), 0);
        Check.due("of nobody", x.told(0, 2), BAD);
        Check.due("the first again", x.person(5, 3, 0), 0);
        Check.due("a CLERK now", x.told(0, 9), 3);
    }

    /** "STATE: there is none." */
    private static void backWithoutAnImage() {
        GlassesOfRue x = Check.people(0, 0, 3);
        x.set(0, 0, 8);
        Check.due("back", x.back(), STATE);
        Check.due("PEOPLE stay", x.count(0), 1);
        Check.due("DAY stays", x.count(1), 8);
        Check.due("image", x.image(), 1);
        Check.due("back", x.back(), 1);
        Check.due("back, again", x.back(), 1);
    }

    /** "AN IMAGE keeps DAY, WET, NUMBERS, RUE, HAD, THE RULE": each at its bounds. */
    private static void imageKeeps() {
        for (int bound = 0; bound < 2; bound++) {
            GlassesOfRue x = Check.people(0, 1, 1, 3, 1, 1);
            Check.text(x, "runs1;clogs0;rues1;");
            int[] most = {999, 9, 9, 999, 999};
            for (int what = 0; what < 5; what++) {
                x.set(what, 1, bound * most[what]);
            }
            x.force(bound);
            Check.due("image", x.image(), 2);
            for (int what = 0; what < 5; what++) {
                x.set(what, 1, (1 - bound) * most[what]);
                x.set(what, 0, 5);
            }
            x.force(1 - bound);
            Check.due("back", x.back(), 2);
            int[] other = {bound * 999, bound * 9, 1, 1, 0};
            for (int what = 0; what < 5; what++) {
                Check.due("the second's " + what, x.told(1, what), bound * most[what]);
                Check.due("the first's " + what, x.told(0, what), other[what]);
            }
            Check.due("THE RULE", x.count(5), bound);
        }
    }

    /** TEXTS, THE TAPE and SHEETS aren't named: they stay. */
    private static void imageKeepsNothingElse() {
        GlassesOfRue x = Check.people(5, 4, 0);
        x.feed('r');
        Check.row(x, 0, 1);
        x.image();
        Check.due("THE TAPE goes on", Check.text(x, "uns1;clogs1;rues1;"), 1);
        x.feed(32);
        x.feed(32);
        Check.row(x, 0, 4);
        Check.row(x, 1, 4);
        x.back();
        Check.due("TEXTS stay", x.count(3), 2);
        Check.due("THE TAPE stays", x.count(4), 2);
        Check.due("SHEETS stay", x.tells(0, 0, 0), NONE);
        Check.due("SHEETS stay", x.tells(1, 0, 0), NONE);
        Check.due("a later TEXT can be THE RULE", x.force(1), 0);
    }

    /** "(PEOPLE that came since go)" */
    private static void peopleThatCameSinceGo() {
        GlassesOfRue x = Check.people(0, 0, 0, 1, 0, 0);
        x.image();
        x.person(2, 1, 1);
        x.person(3, 1, 1);
        x.person(4, 1, 1);
        Check.due("all are there", x.person(5, 1, 1), -4);
        Check.due("back", x.back(), 2);
        Check.due("the third went", x.told(2, 5), BAD);
        Check.due("another third", x.person(5, 8, 9), 2);
        Check.due("its KIND", x.told(2, 5), 5);
        Check.due("its NUMBER", x.told(2, 2), 8);
        Check.due("its RUE", x.told(2, 3), 9);
        Check.due("back", x.back(), 2);
        Check.due("RUE of all", x.count(2), 0);
        GlassesOfRue y = Check.people(0, 0, 1, 0, 0, 1, 0, 0, 1, 0, 0, 1, 0, 0, 1);
        Check.due("image of five", y.image(), 5);
        y.day();
        Check.due("back to five", y.back(), 5);
        Check.due("RUE of all", y.count(2), 5);
    }

    private static void theLastImageIsKept() {
        GlassesOfRue x = Check.people(0, 0, 1);
        x.image();
        x.day();
        x.image();
        x.day();
        x.back();
        Check.due("DAY", x.count(1), 1);
        x.set(0, 0, 7);
        x.back();
        Check.due("what is done behind back() doesn't reach THE IMAGE", x.count(1), 1);
        x.person(0, 0, 5);
        Check.due("a later image", x.image(), 2);
        x.day();
        Check.due("back", x.back(), 2);
        Check.due("RUE of all", x.count(2), 7);
    }

    // ---- count

    private static void countOfNothing() {
        GlassesOfRue x = new GlassesOfRue();
        int[] due = {0, 0, 0, 1, 0, 0};
        for (int what = 0; what < 6; what++) {
            Check.due("count " + what, x.count(what), due[what]);
        }
    }

    private static void countOfAll() {
        GlassesOfRue x = Check.people(0, 0, 999, 0, 0, 999, 0, 0, 999, 0, 0, 999, 0, 0, 999);
        x.set(0, 0, 999);
        for (int i = 1; i < 6; i++) {
            Check.text(x, "runs1;clogs1;rues1;");
        }
        x.force(5);
        while (x.count(4) < 160) {
            x.feed(32);
        }
        int[] due = {5, 999, 5 * 999, 6, 160, 5};
        for (int what = 0; what < 6; what++) {
            Check.due("count " + what, x.count(what), due[what]);
        }
    }

    private static void countNoSuchWhat() {
        for (int what : new int[] {-1, 6, MAX, MIN}) {
            Check.due("count " + what, new GlassesOfRue().count(what), BAD);
        }
    }
}
