/** Promises 8 to 11: day, draw, run, all. */
final class DayTest {
    public static void main(String[] args) {
        day();
        allAreToldFirst();
        dayAtTheEnd();
        draw();
        drawBounds();
        run();
        runWrong();
        all();
        Check.finish();
    }

    private static void day() {
        GlassesOfRue x = new GlassesOfRue();
        Check.due("day of nobody", x.day(), 0);
        Check.due("DAY", x.count(1), 1);
        x.person(0, 0, 10);
        x.person(1, 0, 10);
        x.person(2, 0, 10);
        x.person(3, 4, 10);
        x.person(4, 0, 10);
        Check.due("day", x.day(), 50 + 1 + 2 + 0 + 6 + 1);
        int[] due = {11, 12, 10, 16, 11};
        for (int i = 0; i < 5; i++) {
            Check.due("RUE of " + i, x.told(i, 3), due[i]);
        }
        Check.due("DAY", x.told(0, 0), 2);
    }

    private static void allAreToldFirst() {
        GlassesOfRue x = new GlassesOfRue();
        Check.text(x, "runs rue;clogs 0;rues most;");
        x.force(1);
        x.person(0, 0, 3);
        x.person(0, 0, 1);
        Check.due("day", x.day(), 6 + 4);
        Check.due("run", x.run(1, 1, 0), 4 + 6);
    }

    private static void dayAtTheEnd() {
        GlassesOfRue x = new GlassesOfRue();
        x.person(1, 0, 998);
        x.set(0, 0, 998);
        Check.due("day 998", x.day(), 999);
        Check.due("DAY is 999", x.day(), -3);
        Check.due("DAY stays", x.count(1), 999);
        Check.due("RUE is 999 at most", x.told(0, 3), 999);
        x.person(4, 6, 0);
        Check.due("in thought DAY is 1000", x.run(1, 1, 1), 9);
        Check.due("in thought DAY is 1001", x.run(1, 2, 1), 1);
        x.set(2, 1, 1004 % 7);
        Check.due("in thought DAY is 1004", x.run(1, 5, 1), 9);
        Check.due("DAY is as it was", x.count(1), 999);
    }

    private static void draw() {
        GlassesOfRue x = new GlassesOfRue();
        x.person(0, 0, 10);
        x.person(0, 0, 20);
        Check.due("draw", x.draw(1, 0, 5), 15);
        Check.due("RUE of the other", x.told(0, 3), 15);
        Check.due("HAD of the other", x.told(0, 4), 5);
        Check.due("HAD of the one", x.told(1, 4), 0);
        Check.due("draw 0", x.draw(1, 0, 0), 15);
        Check.due("draw more than is", x.draw(1, 0, 16), -3);
        Check.due("draw all", x.draw(1, 0, 15), 0);
        Check.due("HAD of the other", x.told(0, 4), 20);
        Check.due("one and the same", x.draw(0, 0, 0), -2);
        Check.due("no such one", x.draw(2, 0, 0), -2);
        Check.due("no such other", x.draw(0, 2, 0), -2);
        Check.due("one -1", x.draw(-1, 0, 0), -2);
        Check.due("other -1", x.draw(0, -1, 0), -2);
        Check.due("v -1", x.draw(0, 1, -1), -2);
        Check.due("v 1000", x.draw(0, 1, 1000), -2);
        Check.due("v 999", x.draw(0, 1, 999), -3);
        Check.due("RUE of all", x.count(2), 30);
    }

    private static void drawBounds() {
        GlassesOfRue x = new GlassesOfRue();
        x.person(0, 0, 999);
        x.person(0, 0, 100);
        Check.due("draw to a full one", x.draw(0, 1, 950), 49);
        Check.due("RUE of the other is 999 at most", x.told(1, 3), 999);
        Check.due("HAD of the other", x.told(1, 4), 950);
        x.draw(0, 1, 49);
        Check.due("HAD", x.told(1, 4), 999);
        x.set(3, 0, 5);
        x.draw(0, 1, 5);
        Check.due("HAD is 999 at most", x.told(1, 4), 999);
    }

    private static void run() {
        GlassesOfRue x = new GlassesOfRue();
        x.person(0, 0, 3);
        x.person(1, 0, 1);
        x.set(0, 0, 5);
        Check.due("RUE behind 0", x.run(0, 0, 0), 3);
        Check.due("RUE behind 40", x.run(1, 40, 0), 81);
        Check.due("MINUTES behind 2", x.run(1, 2, 1), 7);
        Check.due("RUE of all behind 40", x.run(0, 40, 2), 43 + 81);
        Check.due("DAY is as it was", x.count(1), 5);
        Check.due("RUE is as it was", x.count(2), 4);
        Check.text(x, "runs 5;clogs 6 < day and day < 8;rues 0;");
        x.force(1);
        Check.due("MINUTES behind 1", x.run(0, 1, 1), 5);
        Check.due("MINUTES behind 2, clogged", x.run(0, 2, 1), 0);
        Check.due("MINUTES behind 3", x.run(0, 3, 1), 5);
    }

    private static void runWrong() {
        GlassesOfRue x = new GlassesOfRue();
        Check.due("run of nobody", x.run(0, 0, 2), -2);
        x.person(0, 0, 0);
        Check.due("run of -1", x.run(-1, 0, 2), -2);
        Check.due("run n -1", x.run(0, -1, 0), -2);
        Check.due("run n 41", x.run(0, 41, 0), -2);
        Check.due("run what 3", x.run(0, 0, 3), -2);
        Check.due("run what -1", x.run(0, 0, -1), -2);
    }

    private static void all() {
        GlassesOfRue x = new GlassesOfRue();
        int[] nobody = {-1, 0, 0, 0};
        for (int what = 0; what < 4; what++) {
            Check.due("all of nobody " + what, x.all(what), nobody[what]);
        }
        Check.due("all 4", x.all(4), -2);
        Check.due("all -1", x.all(-1), -2);
        x.person(0, 0, 3);
        x.person(5, 4, 900);
        x.person(0, 0, 3);
        Check.due("LONGEST: of like ones the first", x.all(0), 0);
        Check.due("its MINUTES", x.all(1), 4);
        Check.due("the most RUE", x.all(3), 900);
        x.set(2, 1, 5);
        Check.due("LONGEST", x.all(0), 1);
        Check.text(x, "runs rue;clogs 100 < rue or rue = 2;rues 0;");
        x.force(1);
        Check.due("LONGEST: what CLOGS is 0", x.all(0), 0);
        Check.due("who CLOG", x.all(2), 2);
        x.set(3, 0, 2);
        x.set(3, 2, 2);
        Check.due("who CLOG", x.all(2), 7);
        Check.due("LONGEST: all are 0", x.all(0), 0);
        Check.due("MINUTES: all are 0", x.all(1), 0);
    }
}
