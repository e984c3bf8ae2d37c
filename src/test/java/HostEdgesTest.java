/** Terms 3 and promises 23 to 27: each sentence that names a bound, just inside it and just outside it. */
final class HostEdgesTest {
    private static final int BAD = -2, NOTHING = -11, OUTSIDE = -12, SORT = -13, SIZE = -14, MAX = Check.MAX, MIN = Check.MIN;

    public static void main(String[] args) {
        sheetsAreMissingAtFirst();
        sheetFrom0To3();
        sheetSorts();
        sheetSizeFrom0To40();
        missingWhateverN();
        sheetRefusesInItsOrder();
        sheetIsAll0Anew();
        cellOfNoSuchSheet();
        cellOfAMissingSheet();
        cellOutside();
        cellRefusesInItsOrder();
        bytesKeepTheLowest8Bits();
        shortsKeepTheLowest16Bits();
        intsKeepAll();
        copyOfNoSuchSheet();
        copyOfAMissingSheet();
        copyOfUnlikeSorts();
        copyOutside();
        copyRefusesInItsOrder();
        copyOfNone();
        copyOfAll();
        copyAsTheyWere();
        copyKeepsSignsAndBits();
        peopleOfNoSuchSheetSortOrN();
        peopleOfAnotherSort();
        peopleOfAMissingSheet();
        peopleRefuseInTheirOrder();
        peopleNone();
        peopleOutside();
        peopleWhatStoodAheadCame();
        peopleOthersAreLeftOut();
        peopleWhileThereIsRoom();
        peopleByEachSort();
        takenForNoSuchKind();
        takenOfNoSuchOne();
        takenUnder();
        takenIsTheNumber();
        Check.finish();
    }

    // ---- reading a SHEET back

    /** Item i of a SHEET, by way of one who comes from SHEET 3 with so much RUE; -1: none can come with it. */
    private static int item(GlassesOfRue x, int sheet, int sort, int i) {
        x.sheet(3, sort, 3);
        x.copy(sheet, i, 3, 2, 1);
        x.image();
        int v = x.people(3, sort, 0, 1) == 1 ? x.told(x.count(0) - 1, 3) : -1;
        x.back();
        return v;
    }

    private static void items(String name, GlassesOfRue x, int sheet, int sort, int... due) {
        for (int i = 0; i < due.length; i++) {
            Check.due(name + ", item " + i, item(x, sheet, sort, i), due[i]);
        }
        Check.due(name + " has no more", x.cell(sheet, due.length, 0), OUTSIDE);
    }

    // ---- sheet

    /** "SHEETS 0 .. 3 are rows of numbers, or missing (as all are at first)" */
    private static void sheetsAreMissingAtFirst() {
        for (int sheet = 0; sheet < 4; sheet++) {
            GlassesOfRue x = Check.people(0, 0, 0);
            Check.due("cell", x.cell(sheet, 0, 0), NOTHING);
            Check.due("copy from", x.copy(sheet, 0, sheet, 0, 0), NOTHING);
            Check.due("people", x.people(sheet, 0, 0, 0), NOTHING);
            Check.due("tells", x.tells(sheet, 0, 0), NOTHING);
        }
    }

    /** "BAD: no such SHEET" */
    private static void sheetFrom0To3() {
        GlassesOfRue x = new GlassesOfRue();
        for (int sheet : new int[] {-1, 4, MAX, MIN}) {
            for (int sort = -1; sort < 3; sort++) {
                Check.due("SHEET " + sheet, x.sheet(sheet, sort, 1), BAD);
            }
        }
        for (int sheet = 0; sheet < 4; sheet++) {
            Check.due("SHEET " + sheet, x.sheet(sheet, 0, 1), 1);
            Check.due("has an item", x.cell(sheet, 0, 1), 1);
        }
    }

    /** "of sort 0 bytes, 1 shorts, 2 ints"; "or missing (sort -1 ..)"; "BAD: .. sort" */
    private static void sheetSorts() {
        GlassesOfRue x = new GlassesOfRue();
        for (int sort : new int[] {-2, 3, MAX, MIN}) {
            Check.due("sort " + sort, x.sheet(0, sort, 1), BAD);
        }
        for (int sort = 0; sort < 3; sort++) {
            Check.due("sort " + sort, x.sheet(0, sort, 1), 1);
            for (int other = 0; other < 3; other++) {
                Check.due("taken for sort " + other, x.people(0, other, 0, 0), other == sort ? 0 : SORT);
            }
        }
        Check.due("sort -1", x.sheet(0, -1, 1), 1);
        Check.due("is missing", x.people(0, 2, 0, 0), NOTHING);
    }

    /** "BAD: .. n above 40; -14." */
    private static void sheetSizeFrom0To40() {
        GlassesOfRue x = new GlassesOfRue();
        for (int sort = 0; sort < 3; sort++) {
            for (int n : new int[] {0, 1, 39, 40}) {
                Check.due("of " + n, x.sheet(0, sort, n), 1);
                Check.due("no item " + n, x.cell(0, n, 0), OUTSIDE);
                Check.due("the last item of " + n, x.cell(0, n - 1, 0), n == 0 ? OUTSIDE : 1);
            }
            for (int n : new int[] {41, 42, MAX}) {
                Check.due("of " + n, x.sheet(0, sort, n), BAD);
            }
            for (int n : new int[] {-1, -2, MIN}) {
                Check.due("of " + n, x.sheet(0, sort, n), SIZE);
            }
            Check.due("the last item stays", x.cell(0, 39, 0), 1);
        }
    }

    /** "or missing (sort -1: n does not matter): 1" */
    private static void missingWhateverN() {
        GlassesOfRue x = new GlassesOfRue();
        for (int n : new int[] {0, 1, 40, 41, -1, MAX, MIN}) {
            x.sheet(2, 1, 3);
            Check.due("missing, n " + n, x.sheet(2, -1, n), 1);
            Check.due("is missing", x.cell(2, 0, 0), NOTHING);
            Check.due("missing anew, n " + n, x.sheet(2, -1, n), 1);
        }
    }

    private static void sheetRefusesInItsOrder() {
        GlassesOfRue x = new GlassesOfRue();
        Check.due("no such SHEET, n -1", x.sheet(4, 0, -1), BAD);
        Check.due("no such sort, n -1", x.sheet(0, 3, -1), BAD);
        Check.due("no such sort, n 41", x.sheet(0, -2, 41), BAD);
        Check.due("n -1", x.sheet(0, 0, -1), SIZE);
    }

    /** "all 0" */
    private static void sheetIsAll0Anew() {
        GlassesOfRue x = new GlassesOfRue();
        for (int sort = 0; sort < 3; sort++) {
            Check.row(x, 0, sort, new int[] {5, 6, 7, 8});
            items("filled", x, 0, sort, 5, 6, 7, 8);
            x.sheet(0, sort, 3);
            items("of the same sort", x, 0, sort, 0, 0, 0);
            x.sheet(0, sort, 4);
            items("of more", x, 0, sort, 0, 0, 0, 0);
            x.cell(0, 3, 9);
            x.sheet(0, -1, 0);
            x.sheet(0, sort, 4);
            items("missing between", x, 0, sort, 0, 0, 0, 0);
            x.cell(0, 2, 9);
        }
        x.sheet(0, 0, 4);
        items("of another sort", x, 0, 0, 0, 0, 0, 0);
    }

    // ---- cell

    private static void cellOfNoSuchSheet() {
        GlassesOfRue x = new GlassesOfRue();
        for (int sheet : new int[] {-1, 4, MAX, MIN}) {
            Check.due("cell of SHEET " + sheet, x.cell(sheet, 0, 0), BAD);
        }
    }

    private static void cellOfAMissingSheet() {
        GlassesOfRue x = new GlassesOfRue();
        for (int sheet = 0; sheet < 4; sheet++) {
            Check.due("cell of SHEET " + sheet, x.cell(sheet, 0, 0), NOTHING);
            x.sheet(sheet, 0, 1);
            Check.due("cell of SHEET " + sheet, x.cell(sheet, 0, 0), 1);
            x.sheet(sheet, -1, 1);
            Check.due("cell of SHEET " + sheet, x.cell(sheet, 0, 0), NOTHING);
        }
    }

    private static void cellOutside() {
        GlassesOfRue x = new GlassesOfRue();
        for (int sort = 0; sort < 3; sort++) {
            x.sheet(sort, sort, 4);
            for (int i : new int[] {-1, 4, 39, 40, MAX, MIN}) {
                Check.due("item " + i, x.cell(sort, i, 7), OUTSIDE);
            }
            Check.due("item 0", x.cell(sort, 0, 7), 1);
            Check.due("item 3", x.cell(sort, 3, 8), 1);
            items("sort " + sort, x, sort, sort, 7, 0, 0, 8);
            x.sheet(sort, sort, 0);
            Check.due("item 0 of none", x.cell(sort, 0, 7), OUTSIDE);
        }
    }

    /** "BAD: no such SHEET; -11; -12." */
    private static void cellRefusesInItsOrder() {
        GlassesOfRue x = new GlassesOfRue();
        Check.due("no such SHEET, outside", x.cell(4, -1, 0), BAD);
        Check.due("missing, outside", x.cell(0, -1, 0), NOTHING);
        Check.due("missing, outside", x.cell(0, 40, 0), NOTHING);
    }

    private static void kept(int sort, int v, int due) {
        GlassesOfRue x = new GlassesOfRue();
        x.sheet(0, sort, 1);
        Check.due("cell becomes " + v, x.cell(0, 0, v), 1);
        Check.due(v + " of sort " + sort, item(x, 0, sort, 0), due);
    }

    /** "(of bytes, shorts its lowest 8, 16 bits)": they are the host's, so the uppermost of them is a sign. */
    private static void bytesKeepTheLowest8Bits() {
        int[][] due = {{0, 0}, {127, 127}, {128, -1}, {200, -1}, {255, -1}, {256, 0}, {257, 1}, {383, 127}, {384, -1},
            {-1, -1}, {-128, -1}, {-129, 127}, {-255, 1}, {-256, 0}, {65536 + 77, 77}, {MAX, -1}, {MIN, 0}, {MIN + 5, 5}};
        for (int[] d : due) {
            kept(0, d[0], d[1]);
        }
    }

    private static void shortsKeepTheLowest16Bits() {
        int[][] due = {{0, 0}, {255, 255}, {256, 256}, {999, 999}, {1000, -1}, {32767, -1}, {32768, -1}, {65535, -1},
            {65536, 0}, {65537, 1}, {65536 + 999, 999}, {-1, -1}, {-65535, 1}, {-65536, 0}, {MAX, -1}, {MIN, 0}, {MIN + 999, 999}};
        for (int[] d : due) {
            kept(1, d[0], d[1]);
        }
    }

    private static void intsKeepAll() {
        int[][] due = {{0, 0}, {255, 255}, {256, 256}, {999, 999}, {1000, -1}, {65536, -1}, {65537, -1}, {-1, -1}, {-65536, -1},
            {MAX, -1}, {MIN, -1}, {MIN + 999, -1}};
        for (int[] d : due) {
            kept(2, d[0], d[1]);
        }
    }

    // ---- copy

    private static void copyOfNoSuchSheet() {
        GlassesOfRue x = new GlassesOfRue();
        x.sheet(0, 0, 3);
        for (int sheet : new int[] {-1, 4, MAX, MIN}) {
            Check.due("from SHEET " + sheet, x.copy(sheet, 0, 0, 0, 1), BAD);
            Check.due("to SHEET " + sheet, x.copy(0, 0, sheet, 0, 1), BAD);
            Check.due("both " + sheet, x.copy(sheet, 0, sheet, 0, 0), BAD);
        }
    }

    private static void copyOfAMissingSheet() {
        GlassesOfRue x = new GlassesOfRue();
        x.sheet(0, 0, 3);
        for (int sheet = 1; sheet < 4; sheet++) {
            Check.due("from missing SHEET " + sheet, x.copy(sheet, 0, 0, 0, 1), NOTHING);
            Check.due("to missing SHEET " + sheet, x.copy(0, 0, sheet, 0, 1), NOTHING);
            Check.due("both missing " + sheet, x.copy(sheet, 0, sheet, 0, 0), NOTHING);
            Check.due("of none, missing " + sheet, x.copy(0, 0, sheet, 0, 0), NOTHING);
        }
    }

    /** "-13: they are of unlike sorts" */
    private static void copyOfUnlikeSorts() {
        GlassesOfRue x = new GlassesOfRue();
        for (int sort = 0; sort < 3; sort++) {
            x.sheet(sort, sort, 3);
        }
        for (int a = 0; a < 3; a++) {
            for (int b = 0; b < 3; b++) {
                Check.due("from sort " + a + " to " + b, x.copy(a, 0, b, 0, 1), a == b ? 1 : SORT);
                Check.due("none from sort " + a + " to " + b, x.copy(a, 0, b, 0, 0), a == b ? 0 : SORT);
            }
        }
    }

    /** "-12 (also with n below 0)" */
    private static void copyOutside() {
        for (int sort = 0; sort < 3; sort++) {
            GlassesOfRue x = new GlassesOfRue();
            Check.row(x, 0, sort, new int[] {1, 2, 3, 4, 5});
            Check.row(x, 1, sort, new int[] {6, 7, 8});
            int[][] outside = {{-1, 0, 1}, {0, -1, 1}, {0, 0, -1}, {0, 0, 4}, {0, 1, 3}, {0, 3, 1}, {3, 0, 3}, {5, 0, 1},
                {6, 0, 0}, {0, 4, 0}, {-1, 0, 0}, {0, -1, 0}, {5, 3, -1}, {1, 1, MAX}, {MAX, 0, 1}, {0, MAX, 1}, {MAX, MAX, MAX},
                {MIN, 0, 0}, {0, MIN, 0}, {0, 0, MIN}, {MIN, MIN, MIN}, {MAX, 0, MIN}, {1, 1, MIN}};
            for (int[] o : outside) {
                Check.due("copy " + o[0] + ", " + o[1] + ", " + o[2], x.copy(0, o[0], 1, o[1], o[2]), OUTSIDE);
                Check.due("copy back " + o[0] + ", " + o[1] + ", " + o[2], x.copy(1, o[1], 0, o[0], o[2]), OUTSIDE);
            }
            items("the one stays", x, 0, sort, 1, 2, 3, 4, 5);
            items("the other stays", x, 1, sort, 6, 7, 8);
        }
    }

    /** "BAD: no such SHEET; -11; -13: they are of unlike sorts; -12" */
    private static void copyRefusesInItsOrder() {
        GlassesOfRue x = new GlassesOfRue();
        x.sheet(0, 0, 3);
        x.sheet(1, 1, 3);
        Check.due("no such SHEET to a missing one", x.copy(4, 0, 2, 0, 1), BAD);
        Check.due("missing to no such SHEET", x.copy(2, 0, 4, 0, 1), BAD);
        Check.due("missing, outside", x.copy(2, -1, 0, 0, 1), NOTHING);
        Check.due("to missing, outside", x.copy(0, 9, 2, 0, -1), NOTHING);
        Check.due("unlike sorts, outside", x.copy(0, 0, 1, 0, -1), SORT);
        Check.due("unlike sorts, outside", x.copy(0, 9, 1, -1, 1), SORT);
    }

    /** None can be copied from right behind the last item, too. */
    private static void copyOfNone() {
        GlassesOfRue x = new GlassesOfRue();
        Check.row(x, 0, 2, new int[] {1, 2});
        Check.row(x, 1, 2, new int[] {3, 4, 5});
        x.sheet(2, 2, 0);
        Check.due("none at the ends", x.copy(0, 2, 1, 3, 0), 0);
        Check.due("none from none", x.copy(2, 0, 1, 3, 0), 0);
        Check.due("none to none", x.copy(1, 3, 2, 0, 0), 0);
        Check.due("one to none", x.copy(1, 0, 2, 0, 1), OUTSIDE);
        Check.due("none behind that", x.copy(2, 1, 1, 0, 0), OUTSIDE);
        items("the other stays", x, 1, 2, 3, 4, 5);
    }

    private static void copyOfAll() {
        GlassesOfRue x = new GlassesOfRue();
        x.sheet(0, 1, 40);
        x.sheet(1, 1, 40);
        x.cell(0, 0, 11);
        x.cell(0, 39, 12);
        Check.due("all of 40", x.copy(0, 0, 1, 0, 40), 40);
        Check.due("the first", item(x, 1, 1, 0), 11);
        Check.due("the last", item(x, 1, 1, 39), 12);
        Check.due("41 of 40", x.copy(0, 0, 1, 0, 41), OUTSIDE);
        Check.due("the last to the first", x.copy(0, 39, 1, 0, 1), 1);
        Check.due("the first", item(x, 1, 1, 0), 12);
    }

    /** "(as they were)": to the same SHEET, over one another. */
    private static void copyAsTheyWere() {
        for (int sort = 0; sort < 3; sort++) {
            GlassesOfRue x = new GlassesOfRue();
            int[] row = {1, 2, 3, 4, 5};
            Check.row(x, 0, sort, row);
            Check.due("one later", x.copy(0, 0, 0, 1, 4), 4);
            items("one later", x, 0, sort, 1, 1, 2, 3, 4);
            Check.row(x, 0, sort, row);
            Check.due("one earlier", x.copy(0, 1, 0, 0, 4), 4);
            items("one earlier", x, 0, sort, 2, 3, 4, 5, 5);
            Check.due("to itself", x.copy(0, 0, 0, 0, 5), 5);
            items("to itself", x, 0, sort, 2, 3, 4, 5, 5);
        }
    }

    private static void copyKeepsSignsAndBits() {
        GlassesOfRue x = Check.people(5, 9, 0);
        Check.row(x, 0, 2, new int[] {65536 + 9, -1, 9});
        x.sheet(1, 2, 1);
        int[] due = {0, 0, -1};
        for (int i = 0; i < 3; i++) {
            x.copy(0, i, 1, 0, 1);
            Check.due("tells by item " + i, x.tells(1, 0, 0), due[i]);
        }
    }

    // ---- people

    private static void peopleOfNoSuchSheetSortOrN() {
        GlassesOfRue x = new GlassesOfRue();
        x.sheet(0, 0, 15);
        for (int sheet : new int[] {-1, 4, MAX, MIN}) {
            Check.due("people by SHEET " + sheet, x.people(sheet, 0, 0, 1), BAD);
        }
        for (int sort : new int[] {-1, 3, MAX, MIN}) {
            Check.due("people of sort " + sort, x.people(0, sort, 0, 1), BAD);
        }
        for (int n : new int[] {-1, 6, MAX, MIN}) {
            Check.due("people, " + n, x.people(0, 0, 0, n), BAD);
        }
        Check.due("nobody came", x.count(0), 0);
        Check.due("people, 5", x.people(0, 0, 0, 5), 5);
    }

    private static void peopleOfAnotherSort() {
        for (int sort = 0; sort < 3; sort++) {
            for (int other = 0; other < 3; other++) {
                GlassesOfRue x = new GlassesOfRue();
                x.sheet(0, sort, 3);
                Check.due("sort " + sort + " taken for " + other, x.people(0, other, 0, 1), sort == other ? 1 : SORT);
                Check.due("how many came", x.count(0), sort == other ? 1 : 0);
            }
        }
    }

    private static void peopleOfAMissingSheet() {
        GlassesOfRue x = new GlassesOfRue();
        for (int sheet = 0; sheet < 4; sheet++) {
            for (int sort = 0; sort < 3; sort++) {
                Check.due("missing SHEET " + sheet, x.people(sheet, sort, 0, 1), NOTHING);
                Check.due("none by missing SHEET " + sheet, x.people(sheet, sort, 0, 0), NOTHING);
                Check.due("outside missing SHEET " + sheet, x.people(sheet, sort, -1, 5), NOTHING);
            }
        }
    }

    /** "BAD: no such SHEET, sort, n; -13; -11; -12" */
    private static void peopleRefuseInTheirOrder() {
        GlassesOfRue x = new GlassesOfRue();
        x.sheet(0, 0, 3);
        Check.due("missing, n 6", x.people(1, 0, 0, 6), BAD);
        Check.due("missing, sort 3", x.people(1, 3, 0, 1), BAD);
        Check.due("another sort, n -1", x.people(0, 1, 0, -1), BAD);
        Check.due("another sort, outside", x.people(0, 1, 99, 1), SORT);
        Check.due("another sort, none", x.people(0, 2, 0, 0), SORT);
        Check.due("outside", x.people(0, 0, 99, 1), OUTSIDE);
    }

    /** "n of them (0 .. 5)": of none no place is asked. */
    private static void peopleNone() {
        GlassesOfRue x = new GlassesOfRue();
        x.sheet(0, 1, 3);
        x.sheet(1, 1, 0);
        for (int from : new int[] {0, 3, 4, -1, MAX, MIN}) {
            Check.due("none from " + from, x.people(0, 1, from, 0), 0);
            Check.due("none from " + from + " of none", x.people(1, 1, from, 0), 0);
        }
        Check.due("one of none", x.people(1, 1, 0, 1), OUTSIDE);
        Check.due("nobody came", x.count(0), 0);
    }

    /** "-12": from one on, three by three. */
    private static void peopleOutside() {
        GlassesOfRue x = new GlassesOfRue();
        Check.row(x, 0, 2, new int[] {0, 1, 2, 3, 4, 5});
        for (int from : new int[] {-1, -2, -3, 4, 5, 6, 7, MAX, MAX - 1, MAX - 2, MAX - 5, MIN, MIN + 1}) {
            Check.due("from " + from, x.people(0, 2, from, 1), OUTSIDE);
            Check.due("five from " + from, x.people(0, 2, from, 5), OUTSIDE);
            Check.due("nobody came", x.count(0), 0);
        }
        Check.due("the last one", x.people(0, 2, 3, 1), 1);
        Check.due("its KIND", x.told(0, 5), 3);
        Check.due("its NUMBER", x.told(0, 2), 4);
        Check.due("its RUE", x.told(0, 3), 5);
        Check.due("from the middle", x.people(0, 2, 2, 1), 1);
        Check.due("its KIND", x.told(1, 5), 2);
    }

    /** "-12: what stood ahead came." */
    private static void peopleWhatStoodAheadCame() {
        for (int size = 0; size <= 15; size++) {
            GlassesOfRue x = new GlassesOfRue();
            x.sheet(0, 0, size);
            Check.due("five of " + size, x.people(0, 0, 0, 5), size == 15 ? 5 : OUTSIDE);
            Check.due("who came", x.count(0), size / 3);
        }
        GlassesOfRue x = new GlassesOfRue();
        Check.row(x, 0, 2, new int[] {6, 0, 0, 5, 9, 999, 0, 0});
        Check.due("one left out, one came, one outside", x.people(0, 2, 0, 3), OUTSIDE);
        Check.due("who came", x.count(0), 1);
        Check.due("its KIND", x.told(0, 5), 5);
    }

    /** "(as of person()) .. how many came (others are left out)" */
    private static void peopleOthersAreLeftOut() {
        int[][] out = {{-1, 0, 0}, {6, 0, 0}, {0, -1, 0}, {0, 10, 0}, {0, 0, -1}, {0, 0, 1000}};
        for (int[] o : out) {
            GlassesOfRue x = new GlassesOfRue();
            Check.row(x, 0, 2, new int[] {1, 2, 3, o[0], o[1], o[2], 5, 9, 999});
            Check.due("one of three is left out", x.people(0, 2, 0, 3), 2);
            Check.due("PEOPLE", x.count(0), 2);
            Check.due("the first's RUE", x.told(0, 3), 3);
            Check.due("the second's RUE", x.told(1, 3), 999);
            Check.due("the second's HAD", x.told(1, 4), 0);
        }
    }

    private static void peopleWhileThereIsRoom() {
        for (int there = 0; there <= 5; there++) {
            GlassesOfRue x = new GlassesOfRue();
            x.sheet(0, 1, 15);
            for (int i = 0; i < there; i++) {
                x.person(5, 9, 1);
            }
            Check.due("five more than " + there, x.people(0, 1, 0, 5), 5 - there);
            Check.due("PEOPLE", x.count(0), 5);
            Check.due("outside, when all are there", x.people(0, 1, 13, 1), OUTSIDE);
            Check.due("none has room", x.people(0, 1, 0, 5), 0);
        }
    }

    private static void peopleByEachSort() {
        for (int sort = 0; sort < 3; sort++) {
            GlassesOfRue x = new GlassesOfRue();
            Check.row(x, 0, sort, new int[] {0, 0, 127, 5, 9, 256 + 5, 3, 3, 65536 + 7});
            int[] many = {3, 3, 2};
            Check.due("people of sort " + sort, x.people(0, sort, 0, 3), many[sort]);
            int[] second = {5, 261, 261};
            Check.due("the first's RUE", x.told(0, 3), 127);
            Check.due("the second's RUE", x.told(1, 3), second[sort]);
        }
    }

    // ---- taken

    /** "BAD: k" */
    private static void takenForNoSuchKind() {
        GlassesOfRue x = Check.people(0, 3, 0);
        for (int k : new int[] {-1, 6, MAX, MIN}) {
            Check.due("taken for " + k, x.taken(0, k), BAD);
            Check.due("none such taken for " + k, x.taken(1, k), BAD);
        }
    }

    /** "-11: none such" */
    private static void takenOfNoSuchOne() {
        GlassesOfRue x = Check.people(0, 3, 0, 1, 4, 0);
        for (int one : new int[] {-1, 2, 5, MAX, MIN}) {
            for (int k = 0; k < 6; k++) {
                Check.due(one + " taken for " + k, x.taken(one, k), NOTHING);
            }
        }
        Check.due("nobody", new GlassesOfRue().taken(0, 0), NOTHING);
        Check.due("the last", x.taken(1, 0), 4);
    }

    /** "one of KIND k .., or one under that one (also by others between)": the rows are KINDS, the columns k. */
    private static void takenUnder() {
        String[] under = {"100000", "110000", "101000", "110100", "101010", "100001"};
        for (int kind = 0; kind < 6; kind++) {
            GlassesOfRue x = Check.people(kind, 8, 0);
            for (int k = 0; k < 6; k++) {
                Check.due("KIND " + kind + " taken for " + k, x.taken(0, k), under[kind].charAt(k) == '1' ? 8 : SORT);
            }
        }
    }

    private static void takenIsTheNumber() {
        GlassesOfRue x = Check.people(4, 0, 5);
        for (int number = 0; number < 10; number++) {
            x.set(2, 0, number);
            Check.due("taken", x.taken(0, 2), number);
        }
    }
}
