import java.util.function.Supplier;
import java.util.function.ToLongFunction;

/** "Refusals .. change nothing": each refusal of each call, just outside its bound, on an object that has much to lose. */
final class RefusedTest {
    private static final int BAD = -2, STATE = -3, FULL = -4, NOTHING = -11, OUTSIDE = -12, SORT = -13, SIZE = -14;
    private static final long NO = -(1L << 62);
    private static final int MAX = Check.MAX, MIN = Check.MIN;

    private final Supplier<GlassesOfRue> make;
    private final String untouched;

    private RefusedTest(Supplier<GlassesOfRue> make) {
        this.make = make;
        this.untouched = Seen.of(make.get());
    }

    public static void main(String[] args) {
        seenTellsApart();
        RefusedTest rich = new RefusedTest(RefusedTest::rich);
        rich.people();
        rich.texts();
        rich.days();
        rich.onTheTable();
        rich.told();
        rich.drawn();
        rich.sheets();
        rich.copies();
        rich.peopleBySheet();
        rich.asked();
        RefusedTest fresh = new RefusedTest(GlassesOfRue::new);
        fresh.refused("back() without an IMAGE", STATE, x -> x.back());
        fresh.refused("draw() of nobody", BAD, x -> x.draw(0, 1, 0));
        fresh.refused("run() of nobody", BAD, x -> x.run(0, 0, 2));
        fresh.refused("film() of nobody", BAD, x -> x.film(0, 0, 0));
        fresh.refused("times() of nobody", NO, x -> x.times(12));
        fresh.refused("force() none such", BAD, x -> x.force(1));
        new RefusedTest(RefusedTest::five).refusedByFive();
        new RefusedTest(RefusedTest::fullTape).refusedByTape();
        new RefusedTest(RefusedTest::sixTexts).refusedBySixTexts();
        RefusedTest late = new RefusedTest(RefusedTest::late);
        late.refused("day() at 999", STATE, x -> x.day());
        late.refused("day() at 999, again", STATE, x -> {
            x.day();
            return x.day();
        });
        Check.finish();
    }

    private void refused(String name, long due, ToLongFunction<GlassesOfRue> call) {
        GlassesOfRue x = make.get();
        Check.due(name, call.applyAsLong(x), due);
        Check.same("behind " + name, Seen.of(x), untouched);
    }

    // ---- objects that have much to lose

    private static GlassesOfRue rich() {
        GlassesOfRue x = Check.people(5, 7, 20, 3, 4, 30, 0, 3, 2, 4, 5, 8);
        Check.text(x, "runs2;clogs0;rues7;");
        x.set(0, 0, 11);
        x.set(1, 0, 6);
        x.draw(0, 1, 12);
        x.image();
        x.force(1);
        x.day();
        x.set(1, 0, 2);
        x.set(2, 3, 1);
        x.draw(1, 2, 3);
        Check.row(x, 0, 0, new int[] {1, 2, 3});
        Check.row(x, 1, 1, new int[] {4, 5, 6, 7});
        Check.row(x, 2, 2, new int[] {2, 9, 8, 5, 1});
        Check.feed(x, "runs6;clogs0;rues3;");
        return x;
    }

    private static GlassesOfRue five() {
        GlassesOfRue x = rich();
        x.person(2, 2, 2);
        return x;
    }

    private static GlassesOfRue late() {
        GlassesOfRue x = rich();
        x.set(0, 0, 999);
        return x;
    }

    /** THE TAPE of 160 bytes is a TEXT. */
    private static GlassesOfRue fullTape() {
        GlassesOfRue x = rich();
        for (int size = x.count(4); size < 160; size++) {
            x.feed(' ');
        }
        return x;
    }

    private static GlassesOfRue sixTexts() {
        GlassesOfRue x = Check.people(5, 1, 1, 0, 0, 3);
        for (int i = 1; i < 6; i++) {
            Check.text(x, "runs" + i + ";clogs0;rues" + i + ";");
        }
        x.force(4);
        x.image();
        x.force(3);
        Check.feed(x, "runs9");
        return x;
    }

    /** What this test rests on: one change anywhere is seen. */
    private static void seenTellsApart() {
        String untouched = Seen.of(rich());
        Check.same("the same is seen of the same", Seen.of(rich()), untouched);
        ToLongFunction<GlassesOfRue>[] changes = changes();
        for (int i = 0; i < changes.length; i++) {
            GlassesOfRue x = rich();
            changes[i].applyAsLong(x);
            Check.due("change " + i + " is seen", Seen.of(x).equals(untouched) ? 0 : 1, 1);
        }
    }

    @SuppressWarnings({"unchecked", "rawtypes"})
    private static ToLongFunction<GlassesOfRue>[] changes() {
        return new ToLongFunction[] {
            change(x -> x.set(0, 0, 13)), change(x -> x.set(1, 0, 3)), change(x -> x.set(2, 2, 4)),
            change(x -> x.set(3, 1, 998)), change(x -> x.set(4, 3, 1)), change(x -> x.person(0, 0, 0)),
            change(x -> x.feed(32)), change(x -> x.text()), change(x -> x.force(0)), change(x -> x.day()),
            change(x -> x.draw(0, 1, 1)), change(x -> x.image()), change(x -> x.back()), change(x -> x.film(0, 0, 3)),
            change(x -> x.film(3, 0, 1)), change(x -> x.sheet(2, 2, 5)), change(x -> x.sheet(1, -1, 0)),
            change(x -> x.sheet(3, 0, 1)), change(x -> x.cell(0, 2, 4)), change(x -> x.cell(2, 4, 0)),
            change(x -> x.copy(2, 0, 2, 1, 1)), change(x -> x.sheet(0, 1, 3))
        };
    }

    private static ToLongFunction<GlassesOfRue> change(ToLongFunction<GlassesOfRue> call) {
        return call;
    }

    // ---- what is refused

    private void people() {
        int[] most = {999, 9, 9, 999, 999};
        for (int w = 0; w < 5; w++) {
            int what = w;
            for (int v : new int[] {-1, most[what] + 1, MIN, MAX}) {
                refused("set(" + what + ", 1, " + v + ")", BAD, x -> x.set(what, 1, v));
            }
        }
        for (int w = 2; w < 5; w++) {
            int what = w;
            for (int of : new int[] {-1, 4, 5, MIN, MAX}) {
                refused("set(" + what + ", " + of + ", 1)", BAD, x -> x.set(what, of, 1));
            }
        }
        for (int what : new int[] {-1, 5, MIN, MAX}) {
            refused("set(" + what + ", 0, 0)", BAD, x -> x.set(what, 0, 0));
        }
        for (int v : new int[] {-1, MIN, MAX}) {
            refused("person() of KIND " + v, BAD, x -> x.person(v, 0, 0));
            refused("person() of NUMBER " + v, BAD, x -> x.person(0, v, 0));
            refused("person() of RUE " + v, BAD, x -> x.person(0, 0, v));
        }
        refused("person() of KIND 6", BAD, x -> x.person(6, 0, 0));
        refused("person() of NUMBER 10", BAD, x -> x.person(0, 10, 0));
        refused("person() of RUE 1000", BAD, x -> x.person(0, 0, 1000));
    }

    private void texts() {
        for (int v : new int[] {-1, 256, MIN, MAX}) {
            refused("feed(" + v + ")", BAD, x -> x.feed(v));
        }
        for (int v : new int[] {-1, 2, 6, MIN, MAX}) {
            refused("force(" + v + ")", BAD, x -> x.force(v));
        }
    }

    private void days() {
        for (int v : new int[] {-1, 4, MIN, MAX}) {
            refused("draw(" + v + ", 0, 0)", BAD, x -> x.draw(v, 0, 0));
            refused("draw(0, " + v + ", 0)", BAD, x -> x.draw(0, v, 0));
        }
        for (int v : new int[] {-1, 1000, MIN, MAX}) {
            refused("draw(0, 1, " + v + ")", BAD, x -> x.draw(0, 1, v));
        }
        refused("draw() one and the same", BAD, x -> x.draw(1, 1, 0));
        refused("draw() one more than there is", STATE, x -> x.draw(0, 1, x.told(0, 3) + 1));
        refused("draw(0, 1, 999)", STATE, x -> x.draw(0, 1, 999));
    }

    private void onTheTable() {
        for (int three : new int[] {-12, -1, 0, 11, 100, 101, 110, 4, 14, 104, 401, 410, 1012, MIN, MAX}) {
            refused("times(" + three + ")", NO, x -> x.times(three));
            refused("fewest(" + three + ", 9, 0)", BAD, x -> x.fewest(three, 9, 0));
            refused("makes(" + three + ", 9, 0)", BAD, x -> x.makes(three, 9, 0));
            refused("makes(" + three + ", 9, 1)", BAD, x -> x.makes(three, 9, 1));
        }
        for (int minute : new int[] {-1, 0, 31, 32, MIN, MAX}) {
            for (int w = 0; w < 3; w++) {
                int what = w;
                refused("fewest(12, " + minute + ", " + what + ")", BAD, x -> x.fewest(12, minute, what));
            }
            refused("best(" + minute + ", 0)", BAD, x -> x.best(minute, 0));
            refused("best(" + minute + ", 1)", BAD, x -> x.best(minute, 1));
            refused("makes(12, " + minute + ", 0)", BAD, x -> x.makes(12, minute, 0));
            refused("makes(12, " + minute + ", 1)", BAD, x -> x.makes(12, minute, 1));
        }
        for (int what : new int[] {-1, 2, 3, MIN, MAX}) {
            if (what != 2) {
                refused("fewest(12, 9, " + what + ")", BAD, x -> x.fewest(12, 9, what));
            }
            refused("best(9, " + what + ")", BAD, x -> x.best(9, what));
            refused("makes(12, 9, " + what + ")", BAD, x -> x.makes(12, 9, what));
        }
    }

    private void told() {
        for (int v : new int[] {-1, 4, MIN, MAX}) {
            refused("told(" + v + ", 2)", BAD, x -> x.told(v, 2));
            refused("told(" + v + ", 9)", BAD, x -> x.told(v, 9));
            refused("run(" + v + ", 1, 0)", BAD, x -> x.run(v, 1, 0));
            refused("run(" + v + ", 1, 2)", BAD, x -> x.run(v, 1, 2));
            refused("tells(" + v + ", 0, 0)", BAD, x -> x.tells(v, 0, 0));
            refused("tells(0, " + v + ", 0)", BAD, x -> x.tells(0, v, 0));
            refused("tells(0, " + v + ", 7)", BAD, x -> x.tells(0, v, 7));
            refused("film(" + v + ", 0, 1)", BAD, x -> x.film(v, 0, 1));
            refused("film(0, " + v + ", 1)", BAD, x -> x.film(0, v, 1));
        }
        for (int what : new int[] {-1, 10, MIN, MAX}) {
            refused("told(0, " + what + ")", BAD, x -> x.told(0, what));
        }
        for (int v : new int[] {-1, 41, MIN, MAX}) {
            refused("run(0, " + v + ", 0)", BAD, x -> x.run(0, v, 0));
        }
        for (int what : new int[] {-1, 3, MIN, MAX}) {
            refused("run(0, 1, " + what + ")", BAD, x -> x.run(0, 1, what));
        }
        for (int what : new int[] {-1, 4, MIN, MAX}) {
            refused("all(" + what + ")", BAD, x -> x.all(what));
        }
        for (int what : new int[] {-1, 8, MIN, MAX}) {
            refused("tells(0, 0, " + what + ")", BAD, x -> x.tells(0, 0, what));
        }
        for (int n : new int[] {-1, 31, MIN, MAX}) {
            refused("film(0, 0, " + n + ")", BAD, x -> x.film(0, 0, n));
        }
        refused("tells() by a missing SHEET", NOTHING, x -> x.tells(3, 0, 1));
        for (int what : new int[] {-1, 6, MIN, MAX}) {
            refused("count(" + what + ")", BAD, x -> x.count(what));
        }
    }

    private void drawn() {
        for (int n : new int[] {-1, 41, MIN, MAX}) {
            refused("drawn(1, " + n + ")", BAD, x -> x.drawn(1, n));
        }
        for (int m : new int[] {-1, 0, 21, MIN, MAX}) {
            refused("chance() in " + m, NO, x -> x.chance(1, m, 1, 0));
        }
        for (int k : new int[] {-1, 100, MIN, MAX}) {
            refused("chance() of " + k, NO, x -> x.chance(1, 1, k, 0));
        }
        for (int part : new int[] {-1, 2, MIN, MAX}) {
            refused("chance() part " + part, NO, x -> x.chance(1, 1, 1, part));
        }
    }

    private void sheets() {
        for (int v : new int[] {-1, 4, MIN, MAX}) {
            refused("sheet(" + v + ", 0, 1)", BAD, x -> x.sheet(v, 0, 1));
            refused("sheet(" + v + ", -1, 0)", BAD, x -> x.sheet(v, -1, 0));
            refused("cell(" + v + ", 0, 1)", BAD, x -> x.cell(v, 0, 1));
        }
        for (int sort : new int[] {-2, 3, MIN, MAX}) {
            refused("sheet(0, " + sort + ", 1)", BAD, x -> x.sheet(0, sort, 1));
        }
        for (int sort = 0; sort < 3; sort++) {
            int of = sort;
            refused("sheet(0, " + of + ", 41)", BAD, x -> x.sheet(0, of, 41));
            refused("sheet(0, " + of + ", MAX)", BAD, x -> x.sheet(0, of, MAX));
            refused("sheet(0, " + of + ", -1)", SIZE, x -> x.sheet(0, of, -1));
            refused("sheet(0, " + of + ", MIN)", SIZE, x -> x.sheet(0, of, MIN));
            for (int i : new int[] {-1, 3 + of, MIN, MAX}) {
                refused("cell(" + of + ", " + i + ", 1)", OUTSIDE, x -> x.cell(of, i, 1));
            }
        }
        refused("cell() of a missing SHEET", NOTHING, x -> x.cell(3, 0, 1));
        for (int k : new int[] {-1, 6, MIN, MAX}) {
            refused("taken(0, " + k + ")", BAD, x -> x.taken(0, k));
        }
        for (int one : new int[] {-1, 4, MIN, MAX}) {
            refused("taken(" + one + ", 0)", NOTHING, x -> x.taken(one, 0));
        }
        refused("taken() for another KIND", SORT, x -> x.taken(0, 1));
    }

    private void copies() {
        for (int v : new int[] {-1, 4, MIN, MAX}) {
            refused("copy() from SHEET " + v, BAD, x -> x.copy(v, 0, 0, 0, 1));
            refused("copy() to SHEET " + v, BAD, x -> x.copy(0, 0, v, 0, 1));
        }
        refused("copy() from a missing SHEET", NOTHING, x -> x.copy(3, 0, 0, 0, 1));
        refused("copy() to a missing SHEET", NOTHING, x -> x.copy(0, 0, 3, 0, 1));
        refused("copy() of bytes to shorts", SORT, x -> x.copy(0, 0, 1, 0, 1));
        refused("copy() of shorts to ints", SORT, x -> x.copy(1, 0, 2, 0, 1));
        refused("copy() of ints to bytes", SORT, x -> x.copy(2, 0, 0, 0, 1));
        int[][] outside = {{-1, 0, 1}, {0, -1, 1}, {0, 0, -1}, {0, 0, 6}, {4, 0, 2}, {0, 4, 2}, {5, 0, 1}, {0, 5, 1},
            {6, 0, 0}, {0, 6, 0}, {MAX, 0, 1}, {0, MAX, 1}, {1, 1, MAX}, {MIN, 0, 1}, {0, MIN, 1}, {0, 0, MIN}};
        for (int[] o : outside) {
            refused("copy(2, " + o[0] + ", 2, " + o[1] + ", " + o[2] + ")", OUTSIDE, x -> x.copy(2, o[0], 2, o[1], o[2]));
        }
    }

    private void peopleBySheet() {
        for (int v : new int[] {-1, 4, MIN, MAX}) {
            refused("people() by SHEET " + v, BAD, x -> x.people(v, 0, 0, 1));
        }
        for (int sort : new int[] {-1, 3, MIN, MAX}) {
            refused("people() of sort " + sort, BAD, x -> x.people(0, sort, 0, 1));
        }
        for (int n : new int[] {-1, 6, MIN, MAX}) {
            refused("people() of " + n, BAD, x -> x.people(0, 0, 0, n));
        }
        refused("people() by bytes taken for shorts", SORT, x -> x.people(0, 1, 0, 1));
        refused("people() by shorts taken for ints", SORT, x -> x.people(1, 2, 0, 1));
        refused("people() by ints taken for bytes", SORT, x -> x.people(2, 0, 0, 1));
        refused("people() by a missing SHEET", NOTHING, x -> x.people(3, 0, 0, 1));
        for (int from : new int[] {-1, -3, 1, 3, MIN, MAX}) {
            refused("people() from " + from, OUTSIDE, x -> x.people(0, 0, from, 1));
        }
    }

    private void refusedByFive() {
        refused("a sixth person()", FULL, x -> x.person(0, 0, 0));
        refused("a sixth person(), of KIND 6", BAD, x -> x.person(6, 0, 0));
        refused("best() of five", STATE, x -> x.best(9, 0));
        refused("best() TURNS of five", STATE, x -> x.best(9, 1));
        refused("best() of five, minute 31", BAD, x -> x.best(31, 0));
        refused("told() of the sixth", BAD, x -> x.told(5, 2));
        refused("people() when all are there", 0, x -> x.people(0, 0, 0, 1));
    }

    private void refusedByTape() {
        refused("feed() a full TAPE", FULL, x -> x.feed(32));
        refused("feed(256) a full TAPE", BAD, x -> x.feed(256));
        refused("feed(-1) a full TAPE", BAD, x -> x.feed(-1));
    }

    private void refusedBySixTexts() {
        refused("a seventh text()", FULL, x -> x.text());
        refused("a seventh text(), again", FULL, x -> {
            x.text();
            return x.text();
        });
        refused("force(6)", BAD, x -> x.force(6));
    }

    /** What only asks ("in thought", "would be", "were they") changes nothing either. */
    private void asked() {
        asked("run", x -> x.run(1, 40, 0) + x.run(1, 40, 1) + x.run(1, 40, 2));
        asked("all", x -> x.all(0) + x.all(1) + x.all(2) + x.all(3));
        asked("times", x -> x.times(12) + x.times(321));
        asked("fewest", x -> x.fewest(12, 9, 0) + x.fewest(12, 9, 1) + x.fewest(12, 9, 2));
        asked("best", x -> x.best(9, 0) + x.best(9, 1));
        asked("makes: DRAW", x -> x.makes(12, 1, 0) + x.makes(213, 29, 0));
        asked("makes: DAYS", x -> x.makes(12, 1, 1) + x.makes(213, 29, 1));
        for (int w = 0; w < 8; w++) {
            int what = w;
            asked("tells " + what, x -> x.tells(0, 1, what) + x.tells(1, 2, what) + x.tells(2, 3, what));
        }
        asked("drawn", x -> x.drawn(-5, 40));
        asked("chance", x -> x.chance(MAX, 20, 3, 0) + x.chance(MAX, 20, 3, 1));
        asked("taken", x -> x.taken(0, 5) + x.taken(1, 1));
        asked("copy of none", x -> x.copy(0, 3, 0, 0, 0));
        asked("people, none of them", x -> x.people(0, 0, 0, 0));
        asked("draw of nothing", x -> x.draw(0, 1, 0));
        asked("set to what it was", x -> x.set(3, 1, x.told(1, 3)));
        asked("force what it was", x -> x.force(x.count(5)));
    }

    private void asked(String name, ToLongFunction<GlassesOfRue> call) {
        GlassesOfRue x = make.get();
        call.applyAsLong(x);
        Check.same("behind " + name, Seen.of(x), untouched);
    }
}
