/** Terms 2 (ON THE TABLE) and promises 12 to 15: each sentence that names a bound, just inside it and just outside it. */
final class TableEdgesTest {
    private static final int NONE = -1, BAD = -2, STATE = -3, MAX = Check.MAX, MIN = Check.MIN;
    private static final long NO = -(1L << 62);
    /** MINUTES of five CLERKS, unlike one another. */
    private static final int[] FIVE = {2, 9, 5, 7, 3};

    public static void main(String[] args) {
        threeByItsDigits();
        threeOfFewerPeople();
        threesThatAreNone();
        minutesFrom1To30();
        minute30IsTold();
        noSandTellsNothing();
        oneGlassAlone();
        moreThanOneRunOutAtOnce();
        turnedWhileItRuns();
        cloggedGlassesHaveNoSand();
        theLeastTurns();
        wayOfLikeOnesTheFirst();
        wayOf9SetsAtMost();
        nextFromThatMinuteOn();
        bestNeedsThree();
        bestOf4PeopleAtMost();
        bestIsBadAheadOfState();
        bestOfLikeOnesTheFirst();
        bestIsNone();
        drawTheLeast();
        draw40AtMost();
        drawNotMoreThanRue();
        drawFromTheFirstToTheSecond();
        drawBoundsAreThoseOfDraw();
        daysFrom0To10();
        daysPass999();
        whats();
        whateverWasAskedAhead();
        Check.finish();
    }

    private static GlassesOfRue clerks(int... minutes) {
        GlassesOfRue x = new GlassesOfRue();
        for (int m : minutes) {
            x.person(5, m, 0);
        }
        return x;
    }

    private static Model modelOf(int... minutes) {
        Model m = new Model();
        for (int n : minutes) {
            m.person(5, n, 0);
        }
        return m;
    }

    private static boolean isThree(int three, int people) {
        int a = three / 100;
        int b = three / 10 % 10;
        int c = three % 10;
        return three >= 0 && a < people && b < people && c < people && a != b && a != c && b != c;
    }

    // ---- three

    /** "three: 100 times the one, 10 times another, and the third": each order of each three of five. */
    private static void threeByItsDigits() {
        Model m = modelOf(FIVE);
        for (int three = 0; three < 1000; three++) {
            if (!isThree(three, 5)) {
                continue;
            }
            GlassesOfRue x = clerks(FIVE);
            Check.due("times " + three, x.times(three), m.times(three));
            for (int minute = 1; minute <= 30; minute++) {
                for (int what = 0; what < 3; what++) {
                    Check.due("fewest " + three + ", " + minute + ", " + what,
                        x.fewest(three, minute, what), m.fewest(three, minute, what));
                }
                boolean told = m.fewest(three, minute, 0) >= 0;
                Check.due("DRAW " + three + ", " + minute, x.makes(three, minute, 0), told ? 0 : NONE);
                Check.due("DAYS " + three + ", " + minute, x.makes(three, minute, 1), told ? 0 : NONE);
            }
        }
    }

    private static void threeOfFewerPeople() {
        for (int people = 0; people < 5; people++) {
            int[] minutes = new int[people];
            java.util.Arrays.fill(minutes, 9);
            for (int three : new int[] {12, 13, 24, 34, 321, 210, 102, 403, 430, 43}) {
                boolean there = isThree(three, people);
                GlassesOfRue x = clerks(minutes);
                Check.due("times " + three + " of " + people, x.times(three), there ? 1 << 9 | 1 << 18 | 1 << 27 : NO);
                Check.due("fewest " + three + " of " + people, x.fewest(three, 9, 0), there ? 1 : BAD);
                Check.due("DRAW " + three + " of " + people, x.makes(three, 9, 0), there ? 0 : BAD);
                Check.due("DAYS " + three + " of " + people, x.makes(three, 9, 1), there ? 0 : BAD);
            }
        }
    }

    /** "NO: no such three, two of them the same." */
    private static void threesThatAreNone() {
        for (int three = -1100; three < 3100; three++) {
            if (three < 0 || three > 999 || !isThree(three, 5)) {
                Check.due("times " + three, none().times(three), NO);
                Check.due("fewest " + three, none().fewest(three, 9, 2), BAD);
                Check.due("makes " + three, none().makes(three, 9, 1), BAD);
            }
        }
        for (int three : new int[] {MIN, MIN + 12, MAX, MAX - 12, -12, 10012, 1 << 16 | 12}) {
            Check.due("times " + three, none().times(three), NO);
            Check.due("fewest " + three, none().fewest(three, 9, 0), BAD);
            Check.due("makes " + three, none().makes(three, 9, 0), BAD);
        }
    }

    private static GlassesOfRue table = clerks(FIVE);
    private static int asked = 0;

    /** One object for many askings, but for no more than 512. */
    private static GlassesOfRue none() {
        asked++;
        if (asked % 480 == 0) {
            table = clerks(FIVE);
        }
        return table;
    }

    // ---- minutes

    /** "A minute (1 .. 30)" */
    private static void minutesFrom1To30() {
        GlassesOfRue x = clerks(1, 1, 1);
        for (int minute : new int[] {0, -1, 31, 32, 64, MAX, MIN}) {
            for (int what = 0; what < 3; what++) {
                Check.due("fewest, minute " + minute, x.fewest(12, minute, what), BAD);
            }
            for (int what = 0; what < 2; what++) {
                Check.due("best, minute " + minute, x.best(minute, what), BAD);
                Check.due("makes, minute " + minute, x.makes(12, minute, what), BAD);
            }
        }
        Check.due("fewest, minute 1", x.fewest(12, 1, 0), 1);
        Check.due("fewest, minute 30", x.fewest(12, 30, 0), 30);
        Check.due("best, minute 1", x.best(1, 1), 1);
        Check.due("best, minute 30", x.best(30, 1), 30);
        Check.due("makes, minute 1", x.makes(12, 1, 0), 0);
        Check.due("makes, minute 30", x.makes(12, 30, 1), 0);
    }

    /** "TIMES: .. (bits: minute m is bit m)": 1 .. 30, no bit beside them. */
    private static void minute30IsTold() {
        Check.due("each minute", clerks(1, 1, 1).times(12), (1L << 31) - 2);
        Check.due("minute 30 by 6", clerks(6, 0, 0).times(12), 1L << 6 | 1L << 12 | 1L << 18 | 1L << 24 | 1L << 30);
        Check.due("minute 30 alone of the last ones", clerks(0, 5, 0).times(12),
            1L << 5 | 1L << 10 | 1L << 15 | 1L << 20 | 1L << 25 | 1L << 30);
        Check.due("minute 28 by 7, not 35", clerks(0, 0, 7).times(12), 1L << 7 | 1L << 14 | 1L << 21 | 1L << 28);
    }

    /** "if none runs, nothing more is told" */
    private static void noSandTellsNothing() {
        GlassesOfRue x = clerks(0, 0, 0);
        Check.due("times", x.times(12), 0);
        for (int minute = 1; minute <= 30; minute++) {
            Check.due("FEWEST", x.fewest(12, minute, 0), NONE);
            Check.due("WAY", x.fewest(12, minute, 1), NONE);
            Check.due("NEXT", x.fewest(12, minute, 2), NONE);
            Check.due("BEST", x.best(minute, 0), NONE);
            Check.due("BEST's TURNS", x.best(minute, 1), NONE);
            Check.due("DRAW", x.makes(12, minute, 0), NONE);
            Check.due("DAYS", x.makes(12, minute, 1), NONE);
        }
    }

    /** "all sand below": at first a glass must be turned; a GLASS without sand is none to turn. */
    private static void oneGlassAlone() {
        for (int place = 0; place < 3; place++) {
            for (int size = 1; size < 10; size++) {
                int[] minutes = new int[3];
                minutes[place] = size;
                GlassesOfRue x = clerks(minutes);
                long times = 0;
                String way = "";
                for (int many = 1; many * size <= 30; many++) {
                    times |= 1L << many * size;
                    way += 1 + (1 << place);
                    Check.due("FEWEST", x.fewest(12, many * size, 0), many);
                    Check.due("WAY", x.fewest(12, many * size, 1), many > 9 ? NONE : Integer.parseInt(way));
                }
                Check.due("TIMES", x.times(12), times);
            }
        }
    }

    /** "whenever one has just run out (or more)" */
    private static void moreThanOneRunOutAtOnce() {
        GlassesOfRue x = clerks(4, 4, 7);
        Check.due("8 by 4 and 4", x.fewest(12, 8, 0), 2);
        Check.due("8 by 4 and 4: of like ones the first", x.fewest(12, 8, 1), 22);
        Check.due("7 by one", x.fewest(12, 7, 1), 5);
        GlassesOfRue y = clerks(3, 6, 9);
        Check.due("threes alone", y.times(12), 1L << 3 | 1L << 6 | 1L << 9 | 1L << 12 | 1L << 15 | 1L << 18 | 1L << 21
            | 1L << 24 | 1L << 27 | 1L << 30);
        Check.due("18: twice the third", y.fewest(12, 18, 1), 55);
        Check.due("15: the second, then the third", y.fewest(12, 15, 1), 35);
    }

    /** "the sand below is above then, that above below" */
    private static void turnedWhileItRuns() {
        GlassesOfRue x = clerks(4, 7, 0);
        // Both at 0, the 4 at 4, the 7 at 7; the 4 runs out at 8, when 1 is below in the 7.
        Check.due("FEWEST 9 by 4 and 7", x.fewest(12, 9, 0), 5);
        Check.due("WAY 9 by 4 and 7", x.fewest(12, 9, 1), 4233);
        Check.due("FEWEST 1", x.fewest(12, 1, 0), NONE);
        Check.due("FEWEST 3", x.fewest(12, 3, 0), NONE);
        // With an 8: the 8 stands at 7 with 1 above, 7 below.
        Check.due("FEWEST 9 by 4, 7 and 8", clerks(4, 7, 8).fewest(12, 9, 0), 4);
        Check.due("WAY 9 by 4, 7 and 8", clerks(4, 7, 8).fewest(12, 9, 1), 722);
    }

    /** "0, if it CLOGS" */
    private static void cloggedGlassesHaveNoSand() {
        GlassesOfRue x = Check.people(0, 4, 0, 2, 5, 0, 1, 6, 0);
        Check.rule(x, "runs number;clogs wet;rues 0;");
        Check.due("dry: 4, 2, 7", x.times(12) & 255, 1L << 2 | 1L << 4 | 1L << 6 | 1L << 7);
        x.set(1, 0, 1);
        Check.due("WET 1: 0, 2, 7", x.fewest(12, 4, 0), 2);
        x.set(1, 0, 4);
        Check.due("WET 4: 0, 2, 0", x.times(12) & 255, 1L << 2 | 1L << 4 | 1L << 6);
    }

    // ---- fewest

    /** "FEWEST (a minute): the least number of TURNS, of single glasses, by which that minute is TOLD; NONE." */
    private static void theLeastTurns() {
        GlassesOfRue x = clerks(2, 3, 9);
        Check.due("9 by one", x.fewest(12, 9, 0), 1);
        Check.due("5 by two", x.fewest(12, 5, 0), 2);
        Check.due("5: the first, then the second", x.fewest(12, 5, 1), 23);
        Check.due("1 by none", x.fewest(12, 1, 0), NONE);
        Check.due("WAY by none", x.fewest(12, 1, 1), NONE);
        Check.due("30 by four: 9, 9, 9, 3", x.fewest(12, 30, 0), 4);
        Check.due("29 by four: 9, 9, 9, 2", x.fewest(12, 29, 0), 4);
    }

    /** "of like ones the first (of the least set at minute 0, then of the least next one, ..)" */
    private static void wayOfLikeOnesTheFirst() {
        Check.due("three alike", clerks(5, 5, 5).fewest(12, 5, 1), 2);
        Check.due("three alike, again and again", clerks(5, 5, 5).fewest(12, 30, 1), 222222);
        Check.due("second and third alike", clerks(9, 5, 5).fewest(12, 5, 1), 3);
        Check.due("3 + 5 ahead of 5 + 3", clerks(3, 5, 0).fewest(12, 8, 1), 23);
        Check.due("5 + 3 is the first where 5 is", clerks(5, 3, 0).fewest(12, 8, 1), 23);
        Check.due("the third first", clerks(0, 5, 3).fewest(12, 8, 1), 35);
    }

    /** "as digits (1 more than each; above 9 sets NONE)" */
    private static void wayOf9SetsAtMost() {
        GlassesOfRue x = clerks(0, 3, 0);
        Check.due("9 sets", x.fewest(12, 27, 1), 333333333);
        Check.due("10 sets", x.fewest(12, 30, 1), NONE);
        Check.due("10 sets: FEWEST", x.fewest(12, 30, 0), 10);
        GlassesOfRue y = clerks(0, 0, 2);
        Check.due("8 sets", y.fewest(12, 16, 1), 55555555);
        Check.due("9 sets", y.fewest(12, 18, 1), 555555555);
        Check.due("10 sets", y.fewest(12, 20, 1), NONE);
        Check.due("15 sets", y.fewest(12, 30, 1), NONE);
        Check.due("15 sets: FEWEST", y.fewest(12, 30, 0), 15);
    }

    /** "NEXT (three, a minute): the least minute from that on that can be TOLD; NONE." */
    private static void nextFromThatMinuteOn() {
        GlassesOfRue x = clerks(9, 9, 9);
        for (int minute = 1; minute <= 30; minute++) {
            int due = minute <= 9 ? 9 : minute <= 18 ? 18 : minute <= 27 ? 27 : NONE;
            Check.due("NEXT from " + minute, x.fewest(12, minute, 2), due);
        }
        Check.due("NEXT from 26 is 30", clerks(5, 0, 0).fewest(12, 26, 2), 30);
        Check.due("NEXT from 30 is 30", clerks(5, 0, 0).fewest(12, 30, 2), 30);
        Check.due("NEXT from 29 is none", clerks(7, 0, 0).fewest(12, 29, 2), NONE);
        Check.due("NEXT from 28 is 28", clerks(7, 0, 0).fewest(12, 28, 2), 28);
    }

    // ---- best

    private static void bestNeedsThree() {
        int[][] few = {{}, {9}, {9, 9}};
        for (int[] minutes : few) {
            Check.due("BEST of " + minutes.length, clerks(minutes).best(9, 0), NONE);
            Check.due("BEST's TURNS of " + minutes.length, clerks(minutes).best(9, 1), NONE);
        }
        Check.due("BEST of 3", clerks(9, 9, 9).best(9, 0), 12);
        Check.due("BEST's TURNS of 3", clerks(9, 9, 9).best(9, 1), 1);
    }

    /** "STATE: there are more than 4 PEOPLE." */
    private static void bestOf4PeopleAtMost() {
        GlassesOfRue x = clerks(1, 2, 3, 9);
        Check.due("BEST of 4", x.best(9, 0), 13);
        Check.due("BEST's TURNS of 4", x.best(9, 1), 1);
        x.image();
        x.person(5, 9, 0);
        Check.due("BEST of 5", x.best(9, 0), STATE);
        Check.due("BEST's TURNS of 5", x.best(9, 1), STATE);
        x.back();
        Check.due("BEST of 4, again", x.best(9, 0), 13);
    }

    private static void bestIsBadAheadOfState() {
        GlassesOfRue x = clerks(FIVE);
        Check.due("minute 0", x.best(0, 0), BAD);
        Check.due("minute 31", x.best(31, 1), BAD);
        Check.due("what 2", x.best(9, 2), BAD);
        Check.due("what -1", x.best(9, -1), BAD);
        Check.due("minute 30", x.best(30, 1), STATE);
    }

    /** "of all threes (the least of them first, the greatest last) that by which there are fewest TURNS; of like ones the first" */
    private static void bestOfLikeOnesTheFirst() {
        Check.due("all alike", clerks(9, 9, 9, 9).best(9, 0), 12);
        Check.due("the fourth alone", clerks(0, 0, 0, 9).best(9, 0), 13);
        Check.due("the third or the fourth", clerks(0, 0, 9, 9).best(9, 0), 12);
        Check.due("the third and the fourth", clerks(0, 0, 4, 5).best(9, 0), 23);
        Check.due("the third and the fourth: TURNS", clerks(0, 0, 4, 5).best(9, 1), 2);
        Check.due("the second and the fourth", clerks(0, 4, 0, 5).best(9, 0), 13);
        Check.due("the first and the fourth", clerks(4, 0, 0, 5).best(9, 0), 13);
        Check.due("2 + 3 + 4 or 3 + 3 + 3", clerks(0, 2, 3, 4).best(9, 0), 12);
        Check.due("2 + 3 + 6", clerks(0, 2, 3, 6).best(11, 0), 123);
        Check.due("2 + 3 + 6: TURNS", clerks(0, 2, 3, 6).best(11, 1), 3);
        Check.due("fewer by a later three", clerks(3, 3, 3, 9).best(9, 0), 13);
        Check.due("fewer by a later three: TURNS", clerks(3, 3, 3, 9).best(9, 1), 1);
    }

    private static void bestIsNone() {
        GlassesOfRue x = clerks(9, 9, 9, 9);
        Check.due("BEST", x.best(8, 0), NONE);
        Check.due("BEST's TURNS", x.best(8, 1), NONE);
        Check.due("BEST", x.best(30, 0), NONE);
    }

    // ---- makes: DRAW

    /** PEOPLE 0 and 1 by a rule; the third has no sand. */
    private static GlassesOfRue pair(int rue, int other, String runs) {
        GlassesOfRue x = Check.people(0, 0, rue, 0, 0, other, 5, 0, 0);
        Check.rule(x, "runs " + runs + ";clogs 0;rues 0;");
        return x;
    }

    /** "the least v by which .. that minute can be TOLD (0 .. RUE of the first, ..); NONE" */
    private static void drawTheLeast() {
        GlassesOfRue x = pair(20, 0, "(4 < had) * 7 + (9 < had) * 2");
        Check.due("4 aren't enough for 7, 5 are", x.makes(12, 7, 0), 5);
        Check.due("9 aren't enough for 9, 10 are", x.makes(12, 9, 0), 10);
        Check.due("never 8", x.makes(12, 8, 0), NONE);
        GlassesOfRue y = pair(20, 0, "7");
        Check.due("0 are enough", y.makes(12, 7, 0), 0);
    }

    /** "40 at most" */
    private static void draw40AtMost() {
        Check.due("39 of 999", pair(999, 0, "(38 < had) * 7").makes(12, 7, 0), 39);
        Check.due("40 of 999", pair(999, 0, "(39 < had) * 7").makes(12, 7, 0), 40);
        Check.due("41 of 999", pair(999, 0, "(40 < had) * 7").makes(12, 7, 0), NONE);
        Check.due("40 of 40", pair(40, 0, "(39 < had) * 7").makes(12, 7, 0), 40);
        Check.due("40 of 39", pair(39, 0, "(39 < had) * 7").makes(12, 7, 0), NONE);
        Check.due("41 of 41", pair(41, 0, "(40 < had) * 7").makes(12, 7, 0), NONE);
    }

    private static void drawNotMoreThanRue() {
        Check.due("3 of 3", pair(3, 0, "(2 < had) * 7").makes(12, 7, 0), 3);
        Check.due("3 of 2", pair(2, 0, "(2 < had) * 7").makes(12, 7, 0), NONE);
        Check.due("0 of 0", pair(0, 0, "7").makes(12, 7, 0), 0);
        Check.due("1 of 0", pair(0, 0, "(0 < had) * 7").makes(12, 7, 0), NONE);
    }

    private static void drawFromTheFirstToTheSecond() {
        int[][] orders = {{12, 0, 1}, {21, 0, 2}, {102, 1, 0}, {120, 1, 2}, {201, 2, 0}, {210, 2, 1}};
        for (int[] o : orders) {
            GlassesOfRue x = Check.people(0, 0, 30, 0, 0, 30, 0, 0, 30);
            Check.rule(x, "runs 7 * (had - 5 = number);clogs 0;rues 0;");
            x.set(2, o[2], 1);
            Check.due("DRAW to " + o[2] + " by " + o[0], x.makes(o[0], 7, 0), 6);
            x.set(3, o[1], 5);
            Check.due("DRAW from " + o[1] + " by " + o[0], x.makes(o[0], 7, 0), NONE);
            GlassesOfRue y = Check.people(0, 0, 30, 0, 0, 30, 0, 0, 30);
            Check.rule(y, "runs 7 * (rue = 20);clogs 0;rues 0;");
            Check.due("RUE of the first is less by " + o[0], y.makes(o[0], 7, 0), 10);
        }
    }

    /** RUE and HAD of the second are 999 at most in thought, too. */
    private static void drawBoundsAreThoseOfDraw() {
        Check.due("RUE 999 at most", pair(30, 990, "7 * (rue = 999)").makes(12, 7, 0), 9);
        Check.due("RUE never 1000", pair(30, 990, "7 * (999 < rue)").makes(12, 7, 0), NONE);
        GlassesOfRue x = pair(30, 0, "7 * (had = 999)");
        x.set(4, 1, 985);
        Check.due("HAD 999", x.makes(12, 7, 0), 14);
        GlassesOfRue y = pair(30, 0, "7 * (999 < had)");
        y.set(4, 1, 985);
        Check.due("HAD never 1000", y.makes(12, 7, 0), NONE);
    }

    // ---- makes: DAYS

    /** "DAYS (three, a minute): behind how many DAYS (0 .. 10) it can be; NONE." */
    private static void daysFrom0To10() {
        int[] due = {0, 1, 9, 10, NONE, NONE};
        int[] rue = {0, 1, 9, 10, 11, 12};
        for (int i = 0; i < 6; i++) {
            GlassesOfRue x = Check.people(0, 0, 0, 5, 0, 0, 5, 0, 0);
            Check.rule(x, "runs not rue < " + rue[i] + ";clogs 0;rues 1;");
            Check.due("DAYS till RUE is " + rue[i], x.makes(12, 1, 1), due[i]);
        }
        GlassesOfRue x = Check.people(0, 0, 0, 5, 0, 0, 5, 0, 0);
        Check.rule(x, "runs (2 < day and day < 5) * 7;clogs 0;rues 1;");
        Check.due("DAYS: the least", x.makes(12, 7, 1), 3);
        x.set(0, 0, 4);
        Check.due("DAYS: at once", x.makes(12, 7, 1), 0);
        x.set(0, 0, 5);
        Check.due("DAYS: never more", x.makes(12, 7, 1), NONE);
    }

    /** "in thought (there DAY may pass 999)" */
    private static void daysPass999() {
        GlassesOfRue x = Check.people(0, 0, 0, 5, 0, 0, 5, 0, 0);
        Check.rule(x, "runs (1008 < day) * 7;clogs 0;rues 1;");
        x.set(0, 0, 999);
        Check.due("DAYS till 1009", x.makes(12, 7, 1), 10);
        x.set(0, 0, 998);
        Check.due("DAYS till 1009 from 998", x.makes(12, 7, 1), NONE);
    }

    private static void whats() {
        GlassesOfRue x = clerks(FIVE[0], FIVE[1], FIVE[2]);
        for (int what : new int[] {-1, 3, 4, MAX, MIN}) {
            Check.due("fewest what " + what, x.fewest(12, 9, what), BAD);
        }
        for (int what : new int[] {-1, 2, 3, MAX, MIN}) {
            Check.due("best what " + what, x.best(9, what), BAD);
            Check.due("makes what " + what, x.makes(12, 9, what), BAD);
        }
    }

    /** "(told now)": by what the GLASSES hold now, whatever they held when the table was asked last. */
    private static void whateverWasAskedAhead() {
        int[][] turns = new int[1000][];
        for (int sizes = 0; sizes < 1000; sizes++) {
            turns[sizes] = turns(clerks(sizes / 100, sizes / 10 % 10, sizes % 10));
        }
        for (int sizes = 0; sizes < 1000; sizes++) {
            for (int apart : new int[] {1, 9, 10, 11, 90, 91, 99, 100, 101}) {
                int then = (sizes + apart) % 1000;
                GlassesOfRue x = clerks(sizes / 100, sizes / 10 % 10, sizes % 10);
                x.best(30, 0);
                x.set(2, 0, then / 100);
                x.set(2, 1, then / 10 % 10);
                x.set(2, 2, then % 10);
                boolean same = java.util.Arrays.equals(turns(x), turns[then]);
                Check.due("FEWEST by " + then + ", asked ahead by " + sizes, same ? 1 : 0, 1);
            }
        }
    }

    private static int[] turns(GlassesOfRue x) {
        int[] turns = new int[30];
        for (int minute = 1; minute <= 30; minute++) {
            turns[minute - 1] = x.fewest(12, minute, 0);
        }
        return turns;
    }
}
