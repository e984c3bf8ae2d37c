import java.util.HashMap;
import java.util.Map;

/** Promises 12 to 15: times, fewest, best, makes; beside fixed answers, all against a search of its own. */
final class TableTest {
    public static void main(String[] args) {
        allSizes();
        times();
        fewest();
        best();
        bestIsAny();
        drawing();
        days();
        wrong();
        Check.finish();
    }

    /** Three CLERKS, whose glasses run their NUMBERS. */
    private static GlassesOfRue clerks(int a, int b, int c) {
        GlassesOfRue x = new GlassesOfRue();
        x.person(5, a, 0);
        x.person(5, b, 0);
        x.person(5, c, 0);
        return x;
    }

    /** The best way from a stand on to a minute: its TURNS as two digits, then its sets; null: none. */
    private static String search(int[] sizes, int[] above, int left, Map<Integer, String> known) {
        if (left == 0) {
            return "00";
        }
        int key = ((left * 10 + above[0]) * 10 + above[1]) * 10 + above[2];
        if (known.containsKey(key)) {
            return known.get(key);
        }
        String best = null;
        for (int set = 0; set < 8; set++) {
            int[] then = new int[3];
            int step = 99;
            for (int i = 0; i < 3; i++) {
                then[i] = (set >> i & 1) == 1 ? sizes[i] - above[i] : above[i];
                if (then[i] > 0 && then[i] < step) {
                    step = then[i];
                }
            }
            if (step > left) {
                continue;
            }
            for (int i = 0; i < 3; i++) {
                then[i] = then[i] > step ? then[i] - step : 0;
            }
            String rest = search(sizes, then, left - step, known);
            if (rest != null) {
                int turns = Integer.parseInt(rest.substring(0, 2)) + Integer.bitCount(set);
                String way = (turns < 10 ? "0" : "") + turns + (set + 1) + rest.substring(2);
                if (best == null || way.compareTo(best) < 0) {
                    best = way;
                }
            }
        }
        known.put(key, best);
        return best;
    }

    private static void allSizes() {
        GlassesOfRue x = clerks(0, 0, 0);
        for (int sizes = 0; sizes < 1000; sizes++) {
            int[] size = {sizes / 100, sizes / 10 % 10, sizes % 10};
            if (sizes % 5 == 2) {
                x = clerks(0, 0, 0); // five sizes by one object, 9 and 10, 99 and 100 together: what it remembers mustn't mix them
            }
            for (int i = 0; i < 3; i++) {
                x.set(2, i, size[i]);
            }
            long times = 0;
            Map<Integer, String> known = new HashMap<>();
            for (int minute = 1; minute <= 30; minute++) {
                String way = search(size, new int[3], minute, known);
                String name = "(" + sizes + ", " + minute + ")";
                Check.due("FEWEST" + name, x.fewest(12, minute, 0), way == null ? -1 : Integer.parseInt(way.substring(0, 2)));
                Check.due("WAY" + name, x.fewest(12, minute, 1),
                    way == null || way.length() > 11 ? -1 : Integer.parseInt(way.substring(2)));
                times |= way == null ? 0 : 1L << minute;
            }
            Check.due("TIMES(" + sizes + ")", x.times(12), times);
            for (int minute = 1; minute <= 30; minute++) {
                long later = times >> minute << minute;
                Check.due("NEXT(" + sizes + ", " + minute + ")", x.fewest(12, minute, 2),
                    later == 0 ? -1 : Long.numberOfTrailingZeros(later));
            }
        }
    }

    private static void times() {
        GlassesOfRue x = clerks(4, 7, 8);
        Check.due("times", x.times(12), 2147483536L);
        Check.due("times in another order", x.times(201), 2147483536L);
        Check.due("times of no sand", clerks(0, 0, 0).times(12), 0);
        Check.due("times of 9s", clerks(9, 9, 9).times(210), 1 << 9 | 1 << 18 | 1 << 27);
        Check.text(x, "runs 1;clogs wet;rues 0;");
        x.force(1);
        x.set(1, 0, 1);
        Check.due("times of the clogged", x.times(12), 0);
        long no = GlassesOfRue.NO;
        int[] wrong = {-1, -12, 0, 3, 11, 110, 101, 122, 13, 301, 130, 1012, 1000, 2147483647, -2147483648};
        for (int three : wrong) {
            Check.due("times(" + three + ")", x.times(three), no);
        }
    }

    private static void fewest() {
        GlassesOfRue x = clerks(4, 7, 8);
        Check.due("FEWEST 9", x.fewest(12, 9, 0), 4);
        Check.due("WAY 9", x.fewest(12, 9, 1), 722);
        Check.due("NEXT 9", x.fewest(12, 9, 2), 9);
        Check.due("NEXT 5", x.fewest(12, 5, 2), 7);
        Check.due("FEWEST 5", x.fewest(12, 5, 0), -1);
        Check.due("WAY 5", x.fewest(12, 5, 1), -1);
        GlassesOfRue y = clerks(1, 0, 0);
        Check.due("WAY of 9 sets", y.fewest(12, 9, 1), 222222222);
        Check.due("WAY above 9 sets", y.fewest(12, 10, 1), -1);
        Check.due("FEWEST above 9 sets", y.fewest(12, 10, 0), 10);
        Check.due("FEWEST 30", y.fewest(12, 30, 0), 30);
        Check.due("NEXT beyond all", clerks(9, 9, 9).fewest(12, 28, 2), -1);
        Check.due("WAY in another order", x.fewest(210, 4, 1), 5);
        Check.due("WAY in another order", x.fewest(102, 4, 1), 3);
        Check.due("WAY in another order", x.fewest(120, 4, 1), 5);
        Check.due("WAY in another order", x.fewest(201, 8, 1), 2);
    }

    private static void best() {
        GlassesOfRue x = clerks(9, 9, 9);
        Check.due("best of one three", x.best(9, 0), 12);
        x.person(5, 4, 0);
        Check.due("best: one with the fourth", x.best(4, 0), 13);
        Check.due("best: TURNS", x.best(4, 1), 1);
        Check.due("best: of like ones the first", x.best(9, 0), 12);
        Check.due("best: none", x.best(1, 0), -1);
        Check.due("best: none", x.best(1, 1), -1);
        x.set(2, 0, 8);
        Check.due("best 8", x.best(8, 0), 12);
        Check.due("best 8 TURNS", x.best(8, 1), 1);
        x.person(5, 1, 0);
        Check.due("best of five", x.best(4, 0), -3);
        Check.due("best of five, wrong", x.best(0, 0), -2);
        GlassesOfRue y = new GlassesOfRue();
        y.person(5, 4, 0);
        y.person(5, 4, 0);
        Check.due("best of two", y.best(4, 0), -1);
        Check.due("best of two", y.best(4, 1), -1);
    }

    /** Four CLERKS, so that each of the four threes is the best for some minute. */
    private static void bestIsAny() {
        boolean[] was = new boolean[1000];
        for (int sizes = 1111; sizes < 10000; sizes += 137) {
            GlassesOfRue x = clerks(sizes / 1000, sizes / 100 % 10, sizes / 10 % 10);
            x.person(5, sizes % 10, 0);
            for (int minute = 1; minute <= 30; minute++) {
                int bestThree = -1;
                int bestTurns = -1;
                for (int three : new int[] {12, 13, 23, 123}) {
                    int turns = x.fewest(three, minute, 0);
                    if (turns != -1 && (bestTurns == -1 || turns < bestTurns)) {
                        bestThree = three;
                        bestTurns = turns;
                    }
                }
                Check.due("best three of " + sizes + ", " + minute, x.best(minute, 0), bestThree);
                Check.due("best TURNS of " + sizes + ", " + minute, x.best(minute, 1), bestTurns);
                was[Math.max(0, bestThree)] = true;
            }
        }
        for (int three : new int[] {12, 13, 23, 123}) {
            Check.due("best was " + three, was[three] ? 1 : 0, 1);
        }
    }

    private static void drawing() {
        GlassesOfRue x = new GlassesOfRue();
        x.person(0, 0, 60);
        x.person(0, 0, 2);
        x.person(5, 0, 0);
        Check.due("DRAW: told by now", x.makes(12, 3, 0), 0);
        Check.due("DRAW: one more", x.makes(12, 4, 0), 1);
        Check.due("DRAW: one more, turned twice", x.makes(12, 8, 0), 1);
        Check.due("DRAW: four more", x.makes(12, 7, 0), 4);
        Check.due("DRAW: less can't be", x.makes(12, 2, 0), -1);
        Check.due("DRAW: the other way", x.makes(102, 2, 0), 1);
        Check.due("nothing was drawn off", x.told(1, 4), 0);
        Check.due("nothing was drawn off", x.count(2), 62);
        x.set(3, 0, 48);
        x.set(3, 1, 900);
        Check.due("DRAW: 40 isn't enough for 8", x.makes(12, 8, 0), -1);
        x.set(3, 0, 47);
        Check.due("DRAW: 40 is enough for 8", x.makes(12, 8, 0), 40);
        x.set(3, 0, 3);
        x.set(3, 2, 0);
        Check.due("DRAW: all of it", x.makes(12, 1, 0), 3);
        Check.text(x, "runs 2 < had;clogs 0;rues 0;");
        x.force(1);
        x.set(3, 0, 2);
        Check.due("DRAW: not more than there is", x.makes(12, 5, 0), -1);
        x.set(3, 0, 3);
        Check.due("DRAW: as much as there is", x.makes(12, 5, 0), 3);
        GlassesOfRue y = new GlassesOfRue();
        y.person(0, 0, 40);
        y.person(3, 0, 999);
        y.person(5, 0, 0);
        y.set(4, 1, 920);
        Check.due("HAD of the second", y.told(1, 9), 0);
        y.set(4, 1, 30);
        Check.text(y, "runs 7;clogs 0;rues 0;");
        y.force(1);
        Check.due("BANKER runs", y.told(1, 9), 5);
        Check.due("DRAW: HAD counts", y.makes(12, 4, 0), 10);
        Check.due("DRAW: HAD counts", y.makes(12, 3, 0), 20);
    }

    private static void days() {
        GlassesOfRue x = new GlassesOfRue();
        x.person(0, 0, 0);
        x.person(5, 0, 0);
        x.person(5, 0, 0);
        x.set(0, 0, 999);
        Check.due("DAYS 0", x.makes(12, 5, 1), 0);
        Check.text(x, "runs rue;clogs 0;rues 1;");
        x.force(1);
        Check.due("DAYS 1", x.makes(12, 5, 1), 1);
        Check.due("DAYS 7", x.makes(12, 7, 1), 1);
        x.set(3, 0, 2);
        Check.due("DAYS 5", x.makes(12, 7, 1), 5);
        Check.due("DAYS none", x.makes(12, 1, 1), -1);
        Check.text(x, "runs 1 < rue and 1;clogs 0;rues 1;");
        x.force(2);
        x.set(3, 0, 0);
        Check.due("DAYS 2", x.makes(12, 7, 1), 2);
        Check.text(x, "runs 10 < rue or rue = 10;clogs 0;rues 1;");
        Check.text(x, "runs 10 < rue;clogs 0;rues 1;");
        x.force(3);
        Check.due("DAYS 10", x.makes(12, 7, 1), 10);
        x.force(4);
        Check.due("DAYS 11 are too many", x.makes(12, 7, 1), -1);
        Check.due("no DAY was", x.count(1), 999);
        Check.due("no RUE came", x.count(2), 0);
    }

    private static void wrong() {
        GlassesOfRue x = clerks(1, 2, 3);
        int[] threes = {-1, 0, 11, 13, 110, 121, 1012};
        for (int three : threes) {
            Check.due("fewest three " + three, x.fewest(three, 1, 0), -2);
            Check.due("makes three " + three, x.makes(three, 1, 0), -2);
        }
        for (int minute : new int[] {-1, 0, 31, 2147483647}) {
            Check.due("fewest minute " + minute, x.fewest(12, minute, 0), -2);
            Check.due("best minute " + minute, x.best(minute, 0), -2);
            Check.due("makes minute " + minute, x.makes(12, minute, 0), -2);
        }
        Check.due("fewest what 3", x.fewest(12, 1, 3), -2);
        Check.due("fewest what -1", x.fewest(12, 1, -1), -2);
        Check.due("best what 2", x.best(1, 2), -2);
        Check.due("best what -1", x.best(1, -1), -2);
        Check.due("makes what 2", x.makes(12, 1, 2), -2);
        Check.due("makes what -1", x.makes(12, 1, -1), -2);
    }
}
