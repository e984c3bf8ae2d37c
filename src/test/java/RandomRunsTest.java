/** Random runs of 512 calls, by numbers of its own making (the same each time), held against the Model. */
final class RandomRunsTest {
    private static final int RUNS = 400, CALLS = 512;
    private static final String[] PIECES = {"rue", "number", "wet", "day", "had", "most", "0", "1", "3", "7", "12", "99",
        "9999", "+", "-", "*", "<", "=", "and", "or", "not", "(", ")", ";", "runs", "clogs", "rues", "10000", "ruex", "#", "-", "("};

    private long state;
    private GlassesOfRue x;
    private Model m;

    public static void main(String[] args) {
        for (int run = 0; run < RUNS; run++) {
            new RandomRunsTest().run(run);
        }
        Check.finish();
    }

    private int below(int n) {
        state = state * 6364136223846793005L + 1442695040888963407L;
        return (int) Math.floorMod(state >>> 33, (long) n);
    }

    /** Mostly a .. b, now and then beside it, seldom far off. */
    private int some(int a, int b) {
        int way = below(40);
        if (way == 0) {
            return a - 1;
        }
        if (way == 1) {
            return b + 1;
        }
        if (way == 2) {
            return below(2) == 0 ? 2147483647 - below(3) : -2147483648 + below(3);
        }
        return a + below(b - a + 1);
    }

    private int one() {
        return some(0, Math.max(0, m.people.size() - 1));
    }

    private int three() {
        if (below(12) == 0) {
            return some(0, 1000);
        }
        int a = below(Math.max(1, m.people.size()));
        int b = below(Math.max(1, m.people.size()));
        return a * 100 + b * 10 + below(Math.max(1, m.people.size()));
    }

    private int rue() {
        return below(3) == 0 ? some(0, 999) : some(0, 20);
    }

    private String e(int deep) {
        int way = below(deep <= 0 ? 2 : 9);
        switch (way) {
            case 0: return PIECES[below(6)];
            case 1: return "" + below(below(4) == 0 ? 9999 : 12);
            case 2: return "-" + e(0);
            case 3: return "(" + e(deep - 1) + ")";
            case 4: return e(0) + "*" + e(deep - 1);
            case 5: return e(deep - 1) + (below(2) == 0 ? "+" : " - ") + e(0);
            case 6: return e(0) + (below(2) == 0 ? "<" : "=") + e(0);
            case 7: return e(deep - 1) + (below(2) == 0 ? " and " : " or ") + e(deep - 1);
            default: return "not " + e(deep - 1);
        }
    }

    private String text() {
        StringBuilder text = new StringBuilder();
        if (below(8) == 0) {
            for (int i = below(12); i >= 0; i--) {
                text.append(PIECES[below(PIECES.length)]).append(below(3) == 0 ? "" : " ");
            }
            return text.toString();
        }
        text.append("runs ").append(e(below(5))).append(";clogs ").append(e(below(3)));
        text.append(" ; \n rues ").append(e(below(4))).append(";");
        for (int i = below(3) == 0 ? below(4) : 0; i > 0; i--) {
            int at = below(text.length() + 1);
            if (below(2) == 0 && at < text.length()) {
                text.deleteCharAt(at);
            } else {
                text.insert(at, PIECES[below(PIECES.length)]);
            }
        }
        return text.toString();
    }

    private void run(int run) {
        state = run * 7919L + 1;
        x = new GlassesOfRue();
        m = new Model();
        int rich = below(5) + 1;
        for (int i = 0; i < rich; i++) {
            int kind = below(6), number = below(10), rue = below(12);
            due(run, "person", x.person(kind, number, rue), m.person(kind, number, rue));
        }
        int calls = rich;
        while (calls < CALLS) {
            if (below(25) == 0) {
                String text = text();
                calls += text.length() + 1;
                if (calls > CALLS) {
                    break;
                }
                for (int i = 0; i < text.length(); i++) {
                    due(run, "feed", x.feed(text.charAt(i)), m.feed(text.charAt(i)));
                }
                due(run, "text '" + text + "'", x.text(), m.text());
            } else {
                call(run, below(26));
                calls++;
            }
        }
    }

    private void due(int run, String call, long got, long want) {
        Check.due("random run " + run + ": " + call, got, want);
    }

    private void call(int run, int which) {
        if (which < 13) {
            callFirst(run, which);
        } else {
            callLast(run, which);
        }
    }

    private void callFirst(int run, int which) {
        int a, b, c;
        switch (which) {
            case 0: a = some(0, 4); b = one(); c = a == 1 || a == 2 ? some(0, 9) : rue();
                due(run, "set", x.set(a, b, c), m.set(a, b, c)); break;
            case 1: if (below(6) > 0) break;
                a = some(0, 5); b = some(0, 9); c = rue();
                due(run, "person", x.person(a, b, c), m.person(a, b, c)); break;
            case 2: a = one(); b = some(0, 9);
                due(run, "told", x.told(a, b), m.told(a, b)); break;
            case 3: if (below(30) > 0) break;
                a = some(0, 255); due(run, "feed", x.feed(a), m.feed(a)); break;
            case 4: if (below(30) > 0) break;
                due(run, "text", x.text(), m.text()); break;
            case 5: a = some(0, m.texts.size() - 1); due(run, "force", x.force(a), m.force(a)); break;
            case 6: due(run, "day", x.day(), m.day()); break;
            case 7: a = one(); b = one(); c = rue();
                due(run, "draw", x.draw(a, b, c), m.draw(a, b, c)); break;
            case 8: a = one(); b = some(0, 40); c = some(0, 2);
                due(run, "run", x.run(a, b, c), m.run(a, b, c)); break;
            case 9: a = some(0, 3); due(run, "all", x.all(a), m.all(a)); break;
            case 10: a = three(); due(run, "times", x.times(a), m.times(a)); break;
            case 11: a = three(); b = some(1, 30); c = some(0, 2);
                due(run, "fewest " + a + " " + b + " " + c, x.fewest(a, b, c), m.fewest(a, b, c)); break;
            default: a = some(1, 30); b = some(0, 1);
                due(run, "best", x.best(a, b), m.best(a, b)); break;
        }
    }

    private void callLast(int run, int which) {
        int a, b, c, d, e;
        switch (which) {
            case 13: a = three(); b = some(1, 30); c = some(0, 1);
                due(run, "makes", x.makes(a, b, c), m.makes(a, b, c)); break;
            case 14: a = some(0, 3); b = one(); c = some(0, 7);
                due(run, "tells " + c, x.tells(a, b, c), m.tells(a, b, c)); break;
            case 15: a = some(0, 3); b = one(); c = below(2) == 0 ? some(0, 4) : some(0, 30);
                due(run, "film", x.film(a, b, c), m.film(a, b, c)); break;
            case 16: a = below(1 << 30) * 5; b = some(0, 40);
                due(run, "drawn", x.drawn(a, b), m.drawn(a, b)); break;
            case 17: a = some(0, 9); b = some(1, 20); c = below(2) == 0 ? some(0, 99) : some(0, 20); d = some(0, 1);
                due(run, "chance", x.chance(a, b, c, d), m.chance(a, b, c, d)); break;
            case 18: due(run, "image", x.image(), m.image()); break;
            case 19: if (below(3) > 0) break;
                due(run, "back", x.back(), m.back()); break;
            case 20: a = some(0, 5); due(run, "count", x.count(a), m.count(a)); break;
            case 21: a = some(0, 3); b = some(-1, 2); c = below(2) == 0 ? some(0, 40) : some(0, 15);
                due(run, "sheet", x.sheet(a, b, c), m.sheet(a, b, c)); break;
            case 22: a = some(0, 3); b = some(0, 10); c = below(4) == 0 ? below(100000) - 50000 : some(0, 9);
                due(run, "cell", x.cell(a, b, c), m.cell(a, b, c)); break;
            case 23: a = some(0, 3); b = some(0, 10); c = some(0, 3); d = some(0, 10); e = some(0, 9);
                due(run, "copy", x.copy(a, b, c, d, e), m.copy(a, b, c, d, e)); break;
            case 24: if (below(4) > 0) break;
                a = some(0, 3); b = some(0, 2); c = some(0, 10); d = some(0, 5);
                due(run, "people", x.people(a, b, c, d), m.people(a, b, c, d)); break;
            default: a = one(); b = some(0, 5);
                due(run, "taken", x.taken(a, b), m.taken(a, b)); break;
        }
    }
}
