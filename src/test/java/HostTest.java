/** Promises 23 to 27: sheet, cell, copy, people, taken. */
final class HostTest {
    private static final int MAX = Check.MAX, MIN = Check.MIN;

    public static void main(String[] args) {
        sheet();
        cell();
        copy();
        copyRefused();
        people();
        peopleRefused();
        taken();
        Check.finish();
    }

    private static void sheet() {
        GlassesOfRue x = new GlassesOfRue();
        for (int sheet = 0; sheet < 4; sheet++) {
            for (int sort = 0; sort < 3; sort++) {
                Check.due("sheet of 0", x.sheet(sheet, sort, 0), 1);
                Check.due("has no item", x.cell(sheet, 0, 0), -12);
                Check.due("sheet of 40", x.sheet(sheet, sort, 40), 1);
                Check.due("has item 39", x.cell(sheet, 39, 7), 1);
                Check.due("has no item 40", x.cell(sheet, 40, 7), -12);
                Check.due("sheet of 41", x.sheet(sheet, sort, 41), -2);
                Check.due("sheet of -1", x.sheet(sheet, sort, -1), -14);
                Check.due("sheet of MIN", x.sheet(sheet, sort, MIN), -14);
                Check.due("refused, it stays", x.cell(sheet, 39, 7), 1);
            }
            Check.due("missing, n 41", x.sheet(sheet, -1, 41), 1);
            Check.due("is missing", x.cell(sheet, 0, 0), -11);
            Check.due("missing, n -1", x.sheet(sheet, -1, -1), 1);
            Check.due("sort 3", x.sheet(sheet, 3, 1), -2);
            Check.due("sort -2", x.sheet(sheet, -2, 1), -2);
            Check.due("sort 3, size below 0", x.sheet(sheet, 3, -1), -2);
        }
        Check.due("SHEET 4", x.sheet(4, 0, 1), -2);
        Check.due("SHEET -1", x.sheet(-1, -1, 1), -2);
        Check.due("SHEET 4, size below 0", x.sheet(4, 0, -1), -2);
        x.person(5, 0, 0);
        Check.row(x, 0, 1, 2, 3);
        x.sheet(0, 2, 3);
        Check.due("all 0", x.tells(0, 0, 0), -1);
    }

    private static void cell() {
        GlassesOfRue x = new GlassesOfRue();
        x.person(5, 5, 0);
        Check.due("missing", x.cell(0, 0, 0), -11);
        Check.due("missing, place outside", x.cell(0, -1, 0), -11);
        Check.due("SHEET 4", x.cell(4, 0, 0), -2);
        Check.due("SHEET -1", x.cell(-1, 0, 0), -2);
        x.sheet(0, 0, 1);
        Check.due("place -1", x.cell(0, -1, 0), -12);
        Check.due("place MAX", x.cell(0, MAX, 0), -12);
        Check.due("bytes", x.cell(0, 0, 256 * 3 + 5), 1);
        Check.due("lowest 8 bits", x.tells(0, 0, 0), -1);
        x.sheet(0, 1, 1);
        x.cell(0, 0, 65536 * 3 + 5);
        Check.due("lowest 16 bits", x.tells(0, 0, 0), -1);
        x.cell(0, 0, 256 + 5);
        Check.due("shorts hold more than 8 bits", x.tells(0, 0, 0), 0);
        x.sheet(0, 2, 1);
        x.cell(0, 0, 65536 + 5);
        Check.due("ints hold more than 16 bits", x.tells(0, 0, 0), 0);
        x.cell(0, 0, 5);
        Check.due("ints", x.tells(0, 0, 0), -1);
    }

    /** Whether a SHEET's three numbers are a KIND, a NUMBER, a RUE that come. */
    private static int comes(GlassesOfRue x, int sheet, int sort, int from) {
        x.image();
        int came = x.people(sheet, sort, from, 1);
        int of = x.count(0) - 1;
        int told = came == 1 ? x.told(of, 5) * 10000 + x.told(of, 2) * 1000 + x.told(of, 3) : came - 100;
        x.back();
        return told;
    }

    private static void copy() {
        GlassesOfRue x = new GlassesOfRue();
        Check.row(x, 0, 1, 2, 3, 4, 5);
        Check.row(x, 1, 0, 0, 0, 0);
        Check.due("copy", x.copy(0, 1, 1, 1, 3), 3);
        Check.due("as they were", comes(x, 1, 2, 0), 2003);
        Check.due("as they were", comes(x, 1, 2, 1), 23004);
        Check.due("the one stays", comes(x, 0, 2, 0), 12003);
        Check.due("copy none at the ends", x.copy(0, 5, 1, 4, 0), 0);
        Check.due("copy to itself, later", x.copy(0, 0, 0, 1, 4), 4);
        Check.due("as they were", comes(x, 0, 2, 0), 11002);
        Check.due("as they were", comes(x, 0, 2, 2), 23004);
        Check.row(x, 0, 1, 2, 3, 4, 5);
        Check.due("copy to itself, earlier", x.copy(0, 1, 0, 0, 4), 4);
        Check.due("as they were", comes(x, 0, 2, 0), 23004);
        Check.due("as they were", comes(x, 0, 2, 2), 45005);
        Check.due("copy all to itself", x.copy(0, 0, 0, 0, 5), 5);
    }

    private static void copyRefused() {
        GlassesOfRue x = new GlassesOfRue();
        x.sheet(0, 2, 5);
        x.sheet(1, 2, 4);
        x.sheet(2, 1, 4);
        Check.due("SHEET 4", x.copy(4, 0, 0, 0, 0), -2);
        Check.due("other 4", x.copy(0, 0, 4, 0, 0), -2);
        Check.due("SHEET -1", x.copy(-1, 0, 3, 0, 0), -2);
        Check.due("other -1", x.copy(3, 0, -1, 0, 0), -2);
        Check.due("missing", x.copy(3, 0, 0, 0, -1), -11);
        Check.due("other missing", x.copy(0, 9, 3, 0, 0), -11);
        Check.due("unlike sorts", x.copy(0, 0, 2, 0, 1), -13);
        Check.due("unlike sorts, outside", x.copy(2, -1, 1, 0, 1), -13);
        int[][] outside = {{-1, 0, 1}, {0, -1, 1}, {0, 0, -1}, {0, 0, 5}, {0, 1, 4}, {2, 0, 4}, {6, 0, 0}, {0, 5, 0},
            {MAX, 0, 1}, {0, MAX, 1}, {1, 1, MAX}, {MIN, 0, 1}, {0, 0, MIN}, {MAX, MAX, MAX}};
        for (int[] o : outside) {
            Check.due("copy " + o[0] + " " + o[1] + " " + o[2], x.copy(0, o[0], 1, o[1], o[2]), -12);
        }
    }

    private static void people() {
        GlassesOfRue x = new GlassesOfRue();
        Check.row(x, 0, 9, 1, 2, 3, 6, 0, 0, 5, 9, 999, 0, 0, -1);
        Check.due("people", x.people(0, 2, 1, 4), 2);
        Check.due("PEOPLE", x.count(0), 2);
        Check.due("the first's KIND", x.told(0, 5), 1);
        Check.due("the first's NUMBER", x.told(0, 2), 2);
        Check.due("the first's RUE", x.told(0, 3), 3);
        Check.due("the second's KIND", x.told(1, 5), 5);
        Check.due("the second's NUMBER", x.told(1, 2), 9);
        Check.due("the second's RUE", x.told(1, 3), 999);
        Check.row(x, 1, 0, 0, 1, 0, 0, 2, 0, 0, 3, 0, 0, 4, 0, 0, 5, 0, 0, 6);
        Check.due("none", x.people(1, 2, 0, 0), 0);
        Check.due("those that have room", x.people(1, 2, 0, 5), 3);
        Check.due("the last's RUE", x.told(4, 3), 3);
        x = new GlassesOfRue();
        x.sheet(0, 0, 3);
        x.cell(0, 2, 200);
        Check.due("a byte of 200 is below 0", x.people(0, 0, 0, 1), 0);
        x.cell(0, 2, 127);
        Check.due("a byte of 127", x.people(0, 0, 0, 1), 1);
    }

    private static void peopleRefused() {
        GlassesOfRue x = new GlassesOfRue();
        Check.row(x, 0, 0, 0, 1, 0, 0, 2, 0, 0);
        Check.due("SHEET 4", x.people(4, 2, 0, 1), -2);
        Check.due("SHEET -1", x.people(-1, 2, 0, 1), -2);
        Check.due("sort 3", x.people(0, 3, 0, 1), -2);
        Check.due("sort -1", x.people(0, -1, 0, 1), -2);
        Check.due("n 6", x.people(0, 2, 0, 6), -2);
        Check.due("n -1", x.people(0, 2, 0, -1), -2);
        Check.due("another sort", x.people(0, 1, 0, 0), -13);
        Check.due("another sort, outside", x.people(0, 0, -1, 1), -13);
        Check.due("missing", x.people(1, 2, -1, 0), -11);
        Check.due("SHEET 3 missing", x.people(3, 0, 0, 0), -11);
        Check.due("nobody came", x.count(0), 0);
        for (int from : new int[] {-1, MIN, 6, 8, 9, MAX, MAX - 2}) {
            Check.due("outside " + from, x.people(0, 2, from, 1), -12);
        }
        Check.due("nobody came", x.count(0), 0);
        Check.due("the third is outside", x.people(0, 2, 0, 3), -12);
        Check.due("what stood ahead came", x.count(0), 2);
        Check.due("the second", x.told(1, 3), 2);
        Check.due("none is asked for", x.people(0, 2, 99, 0), 0);
    }

    private static void taken() {
        GlassesOfRue x = new GlassesOfRue();
        int[][] above = {{0}, {0, 1}, {0, 2}, {0, 1, 3}, {0, 2, 4}, {0, 5}};
        for (int kind = 0; kind < 6; kind++) {
            x = new GlassesOfRue();
            x.person(kind, kind + 3, 0);
            for (int k = 0; k < 6; k++) {
                boolean is = false;
                for (int a : above[kind]) {
                    is = is || a == k;
                }
                Check.due("kind " + kind + " taken for " + k, x.taken(0, k), is ? kind + 3 : -13);
            }
        }
        Check.due("k 6", x.taken(0, 6), -2);
        Check.due("k -1", x.taken(0, -1), -2);
        Check.due("k 6 of none such", x.taken(1, 6), -2);
        Check.due("none such", x.taken(1, 0), -11);
        Check.due("-1", x.taken(-1, 0), -11);
    }
}
