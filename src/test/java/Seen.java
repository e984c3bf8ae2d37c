/** All that can be seen of an object, so that two can be held against each other; the asking spends it. */
final class Seen {
    private final GlassesOfRue x;
    private final StringBuilder seen = new StringBuilder();

    private Seen(GlassesOfRue x) {
        this.x = x;
    }

    /**
     * Some 200 calls, for SHEETS of some 12 numbers in all. SHEET 3 is missing, and the numbers on the others
     * are 0 .. 9, as far as the object is one of RefusedTest's.
     */
    static String of(GlassesOfRue x) {
        Seen s = new Seen(x);
        s.world("now");
        s.texts();
        s.sheets();
        s.add("back", x.back());
        s.world("then");
        return s.seen.toString();
    }

    private void add(String what, long v) {
        seen.append(' ').append(what).append(' ').append(v);
    }

    private void world(String when) {
        seen.append(when).append(':');
        for (int what = 0; what < 6; what++) {
            add("count", x.count(what));
        }
        add("wet", x.told(0, 1));
        int people = x.count(0);
        for (int of = 0; of < 5; of++) {
            for (int what = 2; what < (of < people ? 10 : 3); what++) {
                add("of " + of, x.told(of, what));
            }
        }
    }

    /** Each TEXT by what it tells of the first one, then THE TAPE by what comes of it. */
    private void texts() {
        int was = x.count(5);
        int texts = x.count(3);
        for (int text = 0; text < texts; text++) {
            tells(text);
        }
        int tape = x.text();
        add("tape", tape);
        tells(tape);
        x.force(was);
    }

    private void tells(int text) {
        if (x.force(text) >= 0) {
            add("text", x.told(0, 6) * 1000 + x.told(0, 7) * 100 + x.told(0, 8));
        }
    }

    private void sheets() {
        int was = x.force(0);
        add("SHEET 3", x.cell(3, 0, 0));
        for (int sheet = 0; sheet < 3; sheet++) {
            for (int sort = 0; sort < 3; sort++) {
                int of = x.people(sheet, sort, 0, 0);
                add("sort", of);
                if (of == 0) {
                    numbers(sheet, sort);
                }
            }
        }
        x.force(was);
    }

    /** Each number comes to SHEET 3 alone, and is read back as a CLERK's NUMBER, if the first one is a CLERK. */
    private void numbers(int sheet, int sort) {
        x.sheet(3, sort, 1);
        for (int i = 0; i <= 40 && x.copy(sheet, i, 3, 0, 1) == 1; i++) {
            add("bit", x.tells(3, 0, 2));
        }
    }
}
