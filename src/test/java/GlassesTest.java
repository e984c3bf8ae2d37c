/** Promises 16 to 22: tells, film, drawn, chance, image, back, count. */
final class GlassesTest {
    public static void main(String[] args) {
        tellsFirst();
        tellsWhich();
        tellsOthers();
        tellsRefused();
        film();
        drawn();
        chance();
        image();
        count();
        Check.finish();
    }

    private static void tellsFirst() {
        GlassesOfRue x = new GlassesOfRue();
        x.person(0, 0, 3);
        Check.row(x, 0, 4, 5, 6, 8);
        Check.due("the first that is otherwise", x.tells(0, 0, 0), 3);
        x.cell(0, 3, 7);
        Check.due("none is otherwise", x.tells(0, 0, 0), -1);
        x.cell(0, 0, 0);
        Check.due("the first is otherwise", x.tells(0, 0, 0), 0);
        Check.due("nothing is changed", x.told(0, 3), 3);
        Check.due("nothing is changed", x.count(1), 0);
        Check.text(x, "runs 5;clogs day = 1;rues 1;");
        x.force(1);
        Check.row(x, 1, 5, 0, 5);
        Check.due("0, if it CLOGS", x.tells(1, 0, 0), -1);
        x.sheet(2, 0, 2);
        x.cell(2, 0, 256 + 5);
        Check.due("bytes", x.tells(2, 0, 0), -1);
        x.sheet(2, 1, 2);
        x.cell(2, 0, 65536 + 5);
        Check.due("shorts", x.tells(2, 0, 0), -1);
    }

    private static void tellsWhich() {
        GlassesOfRue x = new GlassesOfRue();
        x.person(0, 3, 3);
        Check.row(x, 0, 4, 5, 6);
        Check.due("KINDS", x.tells(0, 0, 1), 1);
        Check.due("RUE: how many", x.tells(0, 0, 4), 1);
        Check.due("RUE: the least", x.tells(0, 0, 5), 3);
        Check.row(x, 1, 9, 9);
        Check.due("RUE: how many from 8 on", x.tells(1, 0, 4), 92);
        Check.due("RUE: the least from 8 on", x.tells(1, 0, 5), 8);
        Check.row(x, 1, 0);
        Check.due("RUE: none", x.tells(1, 0, 4), 0);
        Check.due("RUE: none", x.tells(1, 0, 5), -1);
        Check.row(x, 1, 3, 3);
        Check.due("KINDS: only a CLERK runs 3, 3", x.tells(1, 0, 1), 32);
        Check.row(x, 1, 2, 2);
        Check.due("KINDS: SAINT (NUN RUES 1 more: 2, 2, 3)", x.tells(1, 0, 1), 4 | 16);
        Check.row(x, 1, 2, 2, 3);
        Check.due("KINDS: NUN", x.tells(1, 0, 1), 16);
        x.person(4, 5, 3);
        Check.row(x, 1, 2, 2, 3, 9);
        Check.due("NUMBERS: NUN at DAY 3", x.tells(1, 1, 2), 8);
        x.person(5, 5, 3);
        Check.row(x, 1, 7, 7);
        Check.due("NUMBERS: CLERK", x.tells(1, 2, 2), 128);
        Check.due("NUMBERS: a PERSON has none such", x.tells(1, 0, 2), 0);
        Check.due("NUMBER is as it was", x.told(2, 2), 5);
    }

    private static void tellsOthers() {
        GlassesOfRue x = new GlassesOfRue();
        x.person(0, 3, 3);
        x.person(2, 3, 9);
        x.person(0, 0, 3);
        Check.text(x, "runs wet * 2;clogs 0;rues 1;");
        Check.text(x, "runs 4;clogs 0;rues 1;");
        x.force(1);
        x.set(1, 0, 7);
        Check.row(x, 0, 4, 4);
        Check.due("WETS", x.tells(0, 0, 3), 4);
        Check.due("WETS of a SAINT", x.tells(0, 1, 3), 16);
        Check.row(x, 1, 9);
        Check.due("WETS 5 .. 9", x.tells(1, 0, 3), 1023 & ~31);
        Check.due("WET is as it was", x.told(0, 1), 7);
        Check.due("TEXTS", x.tells(0, 0, 6), 4);
        Check.row(x, 1, 4, 5);
        Check.due("TEXTS: TEXT 0", x.tells(1, 0, 6), 1);
        Check.row(x, 1, 4);
        Check.due("TEXTS: two", x.tells(1, 0, 6), 5);
        Check.due("THE RULE is as it was", x.count(5), 1);
        Check.due("PEOPLE: none", x.tells(1, 0, 7), 0);
        x.set(1, 0, 2);
        Check.due("PEOPLE: first and third", x.tells(1, 1, 7), 5);
        x.set(1, 0, 4);
        Check.due("PEOPLE: SAINT", x.tells(1, 0, 7), 2);
        Check.text(x, "runs most;clogs 0;rues most = 9;");
        x.force(3);
        x.set(3, 1, 2);
        Check.row(x, 1, 9, 9);
        Check.due("RUE of one is the most of all: all from 9", x.tells(1, 0, 4), 91);
        Check.row(x, 1, 9, 9, 3);
        Check.due("RUE of one is the most of all: none", x.tells(1, 0, 4), 0);
        x.sheet(1, 0, 0);
        Check.due("an empty SHEET: KINDS", x.tells(1, 0, 1), 63);
        Check.due("an empty SHEET: NUMBERS", x.tells(1, 0, 2), 1023);
        Check.due("an empty SHEET: WETS", x.tells(1, 0, 3), 1023);
        Check.due("an empty SHEET: RUE", x.tells(1, 0, 4), 100);
        Check.due("an empty SHEET: RUE", x.tells(1, 0, 5), 0);
        Check.due("an empty SHEET: TEXTS", x.tells(1, 0, 6), 15);
        Check.due("an empty SHEET: PEOPLE", x.tells(1, 0, 7), 7);
    }

    private static void tellsRefused() {
        GlassesOfRue x = new GlassesOfRue();
        x.person(5, 0, 0);
        x.sheet(0, 0, 30);
        x.sheet(1, 0, 31);
        Check.due("30 numbers", x.tells(0, 0, 0), -1);
        Check.due("31 numbers", x.tells(1, 0, 0), -2);
        Check.due("a missing SHEET", x.tells(2, 0, 0), -11);
        Check.due("a missing SHEET, of none such", x.tells(2, 1, 0), -2);
        Check.due("a missing SHEET, no such what", x.tells(2, 0, 8), -2);
        Check.due("SHEET 3", x.tells(3, 0, 0), -11);
        Check.due("SHEET 4", x.tells(4, 0, 0), -2);
        Check.due("SHEET -1", x.tells(-1, 0, 0), -2);
        Check.due("one -1", x.tells(0, -1, 7), -2);
        Check.due("what -1", x.tells(0, 0, -1), -2);
    }

    private static void film() {
        GlassesOfRue x = new GlassesOfRue();
        x.person(0, 0, 3);
        x.person(5, 7, 3);
        x.set(0, 0, 999);
        Check.due("film", x.film(0, 0, 3), 3);
        Check.due("the film tells it", x.tells(0, 0, 0), -1);
        Check.due("the film has 3", x.cell(0, 3, 0), -12);
        x.cell(0, 2, 5);
        Check.due("the film told 6", x.tells(0, 0, 0), 2);
        Check.due("DAY is as it was", x.count(1), 999);
        Check.due("RUE is as it was", x.count(2), 6);
        x.sheet(1, 0, 1);
        Check.due("of bytes", x.copy(0, 0, 1, 0, 1), 1);
        Check.due("the first is 4", x.tells(1, 0, 0), -1);
        x.sheet(0, 2, 40);
        Check.due("film over a SHEET", x.film(0, 1, 30), 30);
        Check.due("film of 30", x.tells(0, 1, 0), -1);
        Check.due("film of 30: NUMBERS", x.tells(0, 1, 2), 128);
        Check.due("film of 0", x.film(3, 0, 0), 0);
        Check.due("film of 0 is there", x.cell(3, 0, 0), -12);
        Check.due("film of 31", x.film(0, 0, 31), -2);
        Check.due("film of -1", x.film(0, 0, -1), -2);
        Check.due("film of none such", x.film(0, 2, 1), -2);
        Check.due("film on SHEET 4", x.film(4, 0, 1), -2);
        Check.due("film on SHEET -1", x.film(-1, 0, 1), -2);
        Check.due("the refused change nothing", x.tells(0, 1, 2), 128);
    }

    private static void drawn() {
        GlassesOfRue x = new GlassesOfRue();
        x.person(0, 0, 0);
        x.person(1, 0, 0);
        Check.text(x, "runs 1;clogs wet + 1;rues 1;");
        x.force(1);
        int z = -77;
        int due = 0;
        for (int n = 0; n <= 40; n++) {
            Check.due("drawn in " + n, x.drawn(-77, n), due);
            z = z * 1103515245 + 12345;
            due += (z >>> 9) % 10 > 3 ? 2 : 1;
        }
        Check.text(x, "runs 1;clogs number = 0 and 3 < rue;rues 1;");
        x.force(2);
        x.set(2, 1, 1);
        x.set(3, 0, 1);
        Check.due("told behind the DAY, 2", x.drawn(5, 2), 0);
        Check.due("told behind the DAY, 3", x.drawn(5, 3), 1);
        Check.text(x, "runs 1;clogs had = 0 and rue;rues 3 < wet;");
        x.force(3);
        x.set(4, 1, 1);
        x.set(3, 0, 0);
        z = 5 * 1103515245 + 12345;
        Check.due("WET is drawn ahead of the DAY", x.drawn(5, 1), (z >>> 9) % 10 > 3 ? 1 : 0);
        Check.due("WET is as it was", x.told(0, 1), 0);
        Check.due("DAY is as it was", x.count(1), 0);
        Check.due("drawn n -1", x.drawn(0, -1), -2);
        Check.due("drawn n 41", x.drawn(0, 41), -2);
        Check.due("drawn n 0", x.drawn(0, 0), 0);
    }

    private static void chance() {
        GlassesOfRue x = new GlassesOfRue();
        x.person(0, 0, 0);
        Check.text(x, "runs 1;clogs 4 < wet;rues 1;");
        x.force(1);
        int seed = 2147483640;
        int[] clogs = new int[20];
        for (int i = 0; i < 20; i++) {
            clogs[i] = x.drawn(seed + i, 10);
        }
        for (int m = 1; m <= 20; m++) {
            for (int k = 0; k <= 10; k++) {
                int above = 0;
                for (int i = 0; i < m; i++) {
                    above += clogs[i] >= k ? 1 : 0;
                }
                int below = m;
                for (int d = 20; d > 1; d--) {
                    if (above % d == 0 && below % d == 0) {
                        above /= d;
                        below /= d;
                    }
                }
                Check.due("chance above", chance(seed, m, k, 0), above);
                Check.due("chance below", chance(seed, m, k, 1), below);
            }
        }
        Check.due("k 99", x.chance(0, 20, 99, 0), 0);
        Check.due("k 99, below the line", x.chance(0, 20, 99, 1), 1);
        Check.due("k 0", x.chance(0, 20, 0, 1), 1);
        long no = GlassesOfRue.NO;
        Check.due("m 0", x.chance(0, 0, 0, 0), no);
        Check.due("m 21", x.chance(0, 21, 0, 0), no);
        Check.due("m -1", x.chance(0, -1, 0, 0), no);
        Check.due("k -1", x.chance(0, 1, -1, 0), no);
        Check.due("k 100", x.chance(0, 1, 100, 0), no);
        Check.due("part 2", x.chance(0, 1, 0, 2), no);
        Check.due("part -1", x.chance(0, 1, 0, -1), no);
    }

    /** On an object of its own, so that none is asked more than 512 times. */
    private static long chance(int seed, int m, int k, int part) {
        GlassesOfRue x = new GlassesOfRue();
        x.person(0, 0, 0);
        Check.text(x, "runs 1;clogs 4 < wet;rues 1;");
        x.force(1);
        return x.chance(seed, m, k, part);
    }

    private static void image() {
        GlassesOfRue x = new GlassesOfRue();
        Check.due("back without an IMAGE", x.back(), -3);
        Check.due("image of nobody", x.image(), 0);
        x.person(0, 1, 2);
        x.person(3, 4, 5);
        Check.due("back to nobody", x.back(), 0);
        Check.due("PEOPLE", x.count(0), 0);
        x.person(0, 1, 2);
        x.person(3, 4, 5);
        x.set(0, 0, 6);
        x.set(1, 0, 7);
        x.set(4, 1, 8);
        Check.text(x, "runs 1;clogs 0;rues 0;");
        Check.due("image of two", x.image(), 2);
        for (int again = 0; again < 2; again++) {
            x.day();
            x.set(1, 0, 0);
            x.set(2, 0, 9);
            x.set(4, 1, 0);
            x.draw(0, 1, 1);
            x.force(1);
            x.person(0, 0, 0);
            Check.row(x, 0, 3);
            x.feed(32);
            Check.due("back to two", x.back(), 2);
            int[] due = {6, 7, 1, 2, 0};
            int[] other = {6, 7, 4, 5, 8};
            for (int what = 0; what < 5; what++) {
                Check.due("the first is as it was, " + what, x.told(0, what), due[what]);
                Check.due("the second is as it was, " + what, x.told(1, what), other[what]);
            }
            Check.due("the third went", x.told(2, 2), -2);
            Check.due("KIND stays", x.told(1, 5), 3);
            Check.due("THE RULE is as it was", x.count(5), 0);
            Check.due("TEXTS stay", x.count(3), 2);
            Check.due("THE TAPE stays", x.count(4), again + 1);
            Check.due("SHEETS stay", x.tells(0, 0, 0), -1);
        }
        x.day();
        Check.due("a later image", x.image(), 2);
        x.day();
        x.back();
        Check.due("DAY of the later image", x.count(1), 7);
    }

    private static void count() {
        GlassesOfRue x = new GlassesOfRue();
        x.person(0, 0, 3);
        x.person(0, 0, 4);
        x.set(0, 0, 12);
        Check.text(x, "runs 1;clogs 0;rues 0;");
        Check.text(x, "runs 1;clogs 0;rues 0;");
        x.force(2);
        x.feed(32);
        int[] due = {2, 12, 7, 3, 1, 2};
        for (int what = 0; what < 6; what++) {
            Check.due("count " + what, x.count(what), due[what]);
        }
        Check.due("count 6", x.count(6), -2);
        Check.due("count -1", x.count(-1), -2);
    }
}
