import java.util.ArrayList;
import java.util.Arrays;
import java.util.HashMap;
import java.util.List;
import java.util.Map;
import java.util.function.IntPredicate;

/** The document once more, written as unlike the class as can be, to hold random runs against it. */
final class Model {
    static class Person {
        int number, rue, had;

        int kind() { return 0; }
        int runs(Model m, int v) { return v; }
        boolean clogs(Model m, boolean yes) { return yes; }
        int rues(int v) { return v; }
    }

    static class Scamp extends Person {
        @Override int kind() { return 1; }
        @Override int runs(Model m, int v) { return 1 + super.runs(m, v); }
        @Override boolean clogs(Model m, boolean yes) { return yes && m.wet > 3; }
        @Override int rues(int v) { return 2 * super.rues(v); }
    }

    static class Saint extends Person {
        @Override int kind() { return 2; }
        @Override int runs(Model m, int v) { return super.runs(m, v) / 2; }
        @Override boolean clogs(Model m, boolean yes) { return false; }
        @Override int rues(int v) { return 0; }
    }

    static final class Banker extends Scamp {
        @Override int kind() { return 3; }
        @Override int runs(Model m, int v) { return super.runs(m, v) - had / 10; }
        @Override boolean clogs(Model m, boolean yes) { return super.clogs(m, yes) || had > 50; }
        @Override int rues(int v) { return number + super.rues(v); }
    }

    static final class Nun extends Saint {
        @Override int kind() { return 4; }
        @Override int runs(Model m, int v) { return m.day % 7 == number ? 9 : super.runs(m, v); }
        @Override int rues(int v) { return 1 + super.rues(v); }
    }

    static final class Clerk extends Person {
        @Override int kind() { return 5; }
        @Override int runs(Model m, int v) { return number; }
        @Override int rues(int v) { return Math.min(5, super.rues(v)); }
    }

    static Person make(int kind, int number, int rue, int had) {
        Person p = switch (kind) {
            case 0 -> new Person();
            case 1 -> new Scamp();
            case 2 -> new Saint();
            case 3 -> new Banker();
            case 4 -> new Nun();
            default -> new Clerk();
        };
        p.number = number;
        p.rue = rue;
        p.had = had;
        return p;
    }

    int day, wet, rule;
    List<Person> people = new ArrayList<>();
    List<List<List<String>>> texts = new ArrayList<>();
    StringBuilder tape = new StringBuilder();
    Model kept;
    Object[] sheets = new Object[4];

    Model() {
        tape.append("runs 1 + rue ; clogs 0 ; rues 1 ;");
        text();
    }

    private Model(Model m) {
        day = m.day;
        wet = m.wet;
        rule = m.rule;
        texts = m.texts;
        for (Person p : m.people) {
            people.add(make(p.kind(), p.number, p.rue, p.had));
        }
    }

    // ---- texts

    static List<String> tokens(String text, List<Integer> places) {
        List<String> all = new ArrayList<>();
        java.util.regex.Matcher m = java.util.regex.Pattern.compile("[a-z]+|[0-9]+|[^ \\n]", java.util.regex.Pattern.DOTALL).matcher(text);
        while (m.find()) {
            all.add(m.group());
            places.add(m.start());
        }
        return all;
    }

    static final List<String> NAMES = List.of("rue", "number", "wet", "day", "had", "most");

    /** An automaton with a stack; the place of the FAULT in the tokens, or -1; the parts' tokens come into parts. */
    static int fault(List<String> all, List<List<String>> parts) {
        String[] keys = {"runs", "clogs", "rues"};
        int at = 0;
        for (String key : keys) {
            if (at >= all.size() || !all.get(at).equals(key)) {
                return at;
            }
            at++;
            int start = at;
            StringBuilder open = new StringBuilder();
            List<Boolean> comparedOutside = new ArrayList<>();
            boolean compared = false, operand = true, fresh = true;
            while (true) {
                if (at >= all.size()) {
                    return at;
                }
                String t = all.get(at);
                if (operand) {
                    if (t.equals("not") && fresh && open.length() < 5) {
                        open.append('n');
                    } else if (t.equals("-") && open.length() < 5) {
                        open.append('m');
                        fresh = false;
                    } else if (t.equals("(") && open.length() < 5) {
                        open.append('(');
                        comparedOutside.add(compared);
                        compared = false;
                        fresh = true;
                    } else if (t.matches("[0-9]{1,4}") || NAMES.contains(t)) {
                        operand = false;
                        pop(open, 'm');
                    } else {
                        return at;
                    }
                } else if (t.equals("*") || t.equals("+") || t.equals("-")) {
                    operand = true;
                    fresh = false;
                } else if ((t.equals("<") || t.equals("=")) && !compared) {
                    compared = true;
                    operand = true;
                    fresh = false;
                } else if (t.equals("and") || t.equals("or")) {
                    pop(open, 'n');
                    compared = false;
                    operand = true;
                    fresh = true;
                } else if (t.equals(")")) {
                    int n = open.length();
                    while (n > 0 && open.charAt(n - 1) == 'n') {
                        n--;
                    }
                    if (n == 0) {
                        return at;
                    }
                    open.setLength(n - 1);
                    compared = comparedOutside.remove(comparedOutside.size() - 1);
                    pop(open, 'm');
                } else if (t.equals(";") && open.indexOf("(") < 0) {
                    break;
                } else {
                    return at;
                }
                at++;
            }
            parts.add(all.subList(start, at));
            at++;
        }
        return at == all.size() ? -1 : at;
    }

    private static void pop(StringBuilder open, char what) {
        while (open.length() > 0 && open.charAt(open.length() - 1) == what) {
            open.setLength(open.length() - 1);
        }
    }

    /** The value of tokens that are an E: split at the loosest sign, the last of its kind. */
    int value(List<String> e, Person p) {
        for (String[] signs : new String[][] {{"or"}, {"and"}}) {
            int at = lastOf(e, signs);
            if (at >= 0) {
                int a = value(e.subList(0, at), p), b = value(e.subList(at + 1, e.size()), p);
                return (signs[0].equals("or") ? a != 0 || b != 0 : a != 0 && b != 0) ? 1 : 0;
            }
        }
        if (e.get(0).equals("not")) {
            return value(e.subList(1, e.size()), p) == 0 ? 1 : 0;
        }
        for (String[] signs : new String[][] {{"<", "="}, {"+", "-"}, {"*"}}) {
            int at = lastOf(e, signs);
            if (at >= 0) {
                int a = value(e.subList(0, at), p), b = value(e.subList(at + 1, e.size()), p);
                return switch (e.get(at)) {
                    case "<" -> a < b ? 1 : 0;
                    case "=" -> a == b ? 1 : 0;
                    case "+" -> a + b;
                    case "-" -> a - b;
                    default -> a * b;
                };
            }
        }
        switch (e.get(0)) {
            case "-": return -value(e.subList(1, e.size()), p);
            case "(": return value(e.subList(1, e.size() - 1), p);
            case "rue": return p.rue;
            case "number": return p.number;
            case "wet": return wet;
            case "day": return day;
            case "had": return p.had;
            case "most": return people.stream().mapToInt(q -> q.rue).max().orElse(0);
            default: return Integer.parseInt(e.get(0));
        }
    }

    private static int lastOf(List<String> e, String[] signs) {
        int deep = 0;
        for (int i = e.size() - 1; i > 0; i--) {
            String t = e.get(i);
            deep += t.equals(")") ? 1 : t.equals("(") ? -1 : 0;
            boolean joins = !t.equals("-") || e.get(i - 1).matches("[a-z0-9]+|\\)")
                && !List.of("or", "and", "not").contains(e.get(i - 1));
            if (deep == 0 && joins && Arrays.asList(signs).contains(t)) {
                return i;
            }
        }
        return -1;
    }

    int feed(int letter) {
        if (letter < 0 || letter > 255) {
            return -2;
        }
        if (tape.length() == 160) {
            return -4;
        }
        tape.append((char) letter);
        return tape.length();
    }

    int text() {
        if (texts.size() == 6) {
            return -4;
        }
        List<Integer> places = new ArrayList<>();
        List<String> all = tokens(tape.toString(), places);
        places.add(tape.length());
        tape.setLength(0);
        List<List<String>> parts = new ArrayList<>();
        int fault = fault(all, parts);
        if (fault >= 0) {
            return -100 - places.get(fault);
        }
        texts.add(parts);
        return texts.size() - 1;
    }

    int force(int text) {
        if (text < 0 || text >= texts.size()) {
            return -2;
        }
        int was = rule;
        rule = text;
        return was;
    }

    // ---- people

    private int ask(int part, Person p) {
        return value(texts.get(rule).get(part), p);
    }

    private static int clamp(int v, int most) {
        return v < 0 ? 0 : v > most ? most : v;
    }

    int runs(Person p) { return clamp(p.runs(this, clamp(ask(0, p), 99)), 9); }
    boolean clogs(Person p) { return p.clogs(this, ask(1, p) != 0); }
    int rues(Person p) { return clamp(p.rues(clamp(ask(2, p), 99)), 99); }
    int minutes(Person p) { return clogs(p) ? 0 : runs(p); }
    int sum() { return people.stream().mapToInt(p -> p.rue).sum(); }
    boolean has(int one) { return one >= 0 && one < people.size(); }
    static boolean in(int v, int a, int b) { return a <= v && v <= b; }

    int told(int of, int what) {
        if (what == 0) return day;
        if (what == 1) return wet;
        if (!has(of) || !in(what, 0, 9)) return -2;
        Person p = people.get(of);
        int[] all = {0, 0, p.number, p.rue, p.had, p.kind(), runs(p), clogs(p) ? 1 : 0, rues(p), minutes(p)};
        return all[what];
    }

    int set(int what, int of, int v) {
        int[] most = {999, 9, 9, 999, 999};
        if (!in(what, 0, 4) || !in(v, 0, most[what]) || what > 1 && !has(of)) return -2;
        int was = told(of, what);
        if (what == 0) day = v;
        if (what == 1) wet = v;
        if (what == 2) people.get(of).number = v;
        if (what == 3) people.get(of).rue = v;
        if (what == 4) people.get(of).had = v;
        return was;
    }

    int person(int kind, int number, int rue) {
        if (!in(kind, 0, 5) || !in(number, 0, 9) || !in(rue, 0, 999)) return -2;
        if (people.size() == 5) return -4;
        people.add(make(kind, number, rue, 0));
        return people.size() - 1;
    }

    // ---- days

    private Model pass(int n) {
        for (int i = 0; i < n; i++) {
            int[] more = people.stream().mapToInt(this::rues).toArray();
            for (int j = 0; j < more.length; j++) {
                people.get(j).rue = clamp(people.get(j).rue + more[j], 999);
            }
            day++;
        }
        return this;
    }

    private Model thought() {
        return new Model(this);
    }

    int day() {
        return day == 999 ? -3 : pass(1).sum();
    }

    int draw(int one, int other, int v) {
        if (!has(one) || !has(other) || one == other || !in(v, 0, 999)) return -2;
        Person a = people.get(one), b = people.get(other);
        if (a.rue < v) return -3;
        a.rue -= v;
        b.rue = clamp(b.rue + v, 999);
        b.had = clamp(b.had + v, 999);
        return a.rue;
    }

    int run(int one, int n, int what) {
        if (!has(one) || !in(n, 0, 40) || !in(what, 0, 2)) return -2;
        Model m = thought().pass(n);
        return what == 0 ? m.people.get(one).rue : what == 1 ? m.minutes(m.people.get(one)) : m.sum();
    }

    int all(int what) {
        if (!in(what, 0, 3)) return -2;
        int longest = people.stream().mapToInt(this::minutes).max().orElse(-1);
        int who = -1, clog = 0;
        for (int i = people.size() - 1; i >= 0; i--) {
            if (minutes(people.get(i)) == longest) who = i;
            if (clogs(people.get(i))) clog |= 1 << i;
        }
        return what == 0 ? who : what == 1 ? Math.max(0, longest) : what == 2 ? clog
            : people.stream().mapToInt(p -> p.rue).max().orElse(0);
    }

    // ---- on the table

    private static final Map<Integer, String> WAYS = new HashMap<>();

    /** TURNS (two digits) and sets of the best way from here on; "" if there is none. */
    private static String way(int sizes, int above, int left) {
        if (left == 0) return "00";
        int key = (sizes * 1000 + above) * 31 + left;
        String was = WAYS.get(key);
        if (was != null) return was;
        String best = "";
        int[] size = {sizes / 100, sizes / 10 % 10, sizes % 10}, up = {above / 100, above / 10 % 10, above % 10};
        for (int set = 0; set < 8; set++) {
            int[] a = new int[3];
            for (int i = 0; i < 3; i++) a[i] = (set & 1 << i) != 0 ? size[i] - up[i] : up[i];
            int step = Arrays.stream(a).filter(v -> v > 0).min().orElse(99);
            if (step > left) continue;
            int then = 0;
            for (int i = 0; i < 3; i++) then = then * 10 + Math.max(0, a[i] - step);
            String rest = way(sizes, then, left - step);
            if (rest.isEmpty()) continue;
            int turns = Integer.parseInt(rest.substring(0, 2)) + Integer.bitCount(set);
            String way = String.format("%02d", turns) + (set + 1) + rest.substring(2);
            if (best.isEmpty() || way.compareTo(best) < 0) best = way;
        }
        WAYS.put(key, best);
        return best;
    }

    private boolean isThree(int three) {
        return in(three, 0, 999) && has(three / 100) && has(three / 10 % 10) && has(three % 10)
            && three / 100 != three / 10 % 10 && three / 100 != three % 10 && three / 10 % 10 != three % 10;
    }

    private String way(int three, int minute) {
        int sizes = 0;
        for (int one : new int[] {three / 100, three / 10 % 10, three % 10}) {
            sizes = sizes * 10 + minutes(people.get(one));
        }
        return way(sizes, 0, minute);
    }

    long times(int three) {
        if (!isThree(three)) return Long.MIN_VALUE / 2;
        long bits = 0;
        for (int m = 1; m <= 30; m++) bits |= way(three, m).isEmpty() ? 0 : 1L << m;
        return bits;
    }

    int fewest(int three, int minute, int what) {
        if (!isThree(three) || !in(minute, 1, 30) || !in(what, 0, 2)) return -2;
        String way = way(three, minute);
        if (what == 2) {
            while (minute <= 30 && way(three, minute).isEmpty()) minute++;
            return minute > 30 ? -1 : minute;
        }
        if (way.isEmpty()) return -1;
        return what == 0 ? Integer.parseInt(way.substring(0, 2))
            : way.length() > 11 ? -1 : Integer.parseInt(way.substring(2));
    }

    int best(int minute, int what) {
        if (!in(minute, 1, 30) || !in(what, 0, 1)) return -2;
        if (people.size() > 4) return -3;
        int best = -1, turns = 999;
        for (int three : new int[] {12, 13, 23, 123}) {
            int f = fewest(three, minute, 0);
            if (f >= 0 && f < turns) {
                best = three;
                turns = f;
            }
        }
        return what == 0 ? best : turns == 999 ? -1 : turns;
    }

    int makes(int three, int minute, int what) {
        if (!isThree(three) || !in(minute, 1, 30) || !in(what, 0, 1)) return -2;
        for (int v = 0; v <= (what == 0 ? 40 : 10); v++) {
            Model m = thought();
            if (what == 0 && m.draw(three / 100, three / 10 % 10, v) < 0) return -1;
            if (what == 1) m.pass(v);
            if (!m.way(three, minute).isEmpty()) return v;
        }
        return -1;
    }

    // ---- glasses that were told

    private static int at(Object row, int i) {
        return row instanceof byte[] b ? b[i] : row instanceof short[] s ? s[i] : ((int[]) row)[i];
    }

    private static int size(Object row) {
        return java.lang.reflect.Array.getLength(row);
    }

    private static int sort(Object row) {
        return row instanceof byte[] ? 0 : row instanceof short[] ? 1 : 2;
    }

    private int otherwise(Object row, int one) {
        for (int i = 0; i < size(row); i++) {
            Model m = thought().pass(i);
            if (m.minutes(m.people.get(one)) != at(row, i)) return i;
        }
        return -1;
    }

    private static int bits(int n, IntPredicate is) {
        int bits = 0;
        for (int i = 0; i < n; i++) bits |= is.test(i) ? 1 << i : 0;
        return bits;
    }

    int tells(int sheet, int one, int what) {
        if (!in(sheet, 0, 3) || !has(one) || !in(what, 0, 7)) return -2;
        Object row = sheets[sheet];
        if (row == null) return -11;
        if (size(row) > 30) return -2;
        switch (what) {
            case 0: return otherwise(row, one);
            case 1: return bits(6, k -> {
                Model m = thought();
                Person p = m.people.get(one);
                m.people.set(one, make(k, p.number, p.rue, p.had));
                return m.otherwise(row, one) < 0;
            });
            case 2: return bits(10, v -> { Model m = thought(); m.set(2, one, v); return m.otherwise(row, one) < 0; });
            case 3: return bits(10, v -> { Model m = thought(); m.set(1, one, v); return m.otherwise(row, one) < 0; });
            case 6: return bits(texts.size(), v -> { Model m = thought(); m.force(v); return m.otherwise(row, one) < 0; });
            case 7: return bits(people.size(), v -> otherwise(row, v) < 0);
            default:
        }
        int many = 0, least = -1;
        for (int v = 99; v >= 0; v--) {
            Model m = thought();
            m.set(3, one, v);
            if (m.otherwise(row, one) < 0) {
                many++;
                least = v;
            }
        }
        return what == 4 ? many : least;
    }

    int film(int sheet, int one, int n) {
        if (!in(sheet, 0, 3) || !has(one) || !in(n, 0, 30)) return -2;
        byte[] row = new byte[n];
        for (int i = 0; i < n; i++) row[i] = (byte) run(one, i, 1);
        sheets[sheet] = row;
        return n;
    }

    int drawn(int seed, int n) {
        if (!in(n, 0, 40)) return -2;
        Model m = thought();
        int sum = 0;
        for (int i = 0; i < n; i++) {
            seed = seed * 1103515245 + 12345;
            m.wet = (seed >>> 9) % 10;
            m.pass(1);
            sum += Integer.bitCount(m.all(2));
        }
        return sum;
    }

    long chance(int seed, int m, int k, int part) {
        if (!in(m, 1, 20) || !in(k, 0, 99) || !in(part, 0, 1)) return Long.MIN_VALUE / 2;
        int c = 0;
        for (int i = 0; i < m; i++) c += drawn(seed + i, 10) >= k ? 1 : 0;
        int g = java.math.BigInteger.valueOf(c).gcd(java.math.BigInteger.valueOf(m)).intValue();
        return part == 0 ? c / g : m / g;
    }

    int image() {
        kept = thought();
        return people.size();
    }

    int back() {
        if (kept == null) return -3;
        Model m = kept.thought();
        day = m.day;
        wet = m.wet;
        rule = m.rule;
        people = m.people;
        return people.size();
    }

    int count(int what) {
        if (!in(what, 0, 5)) return -2;
        return new int[] {people.size(), day, sum(), texts.size(), tape.length(), rule}[what];
    }

    // ---- the host: the machine's own refusals

    int sheet(int sheet, int sort, int n) {
        if (!in(sheet, 0, 3) || !in(sort, -1, 2) || sort >= 0 && n > 40) return -2;
        try {
            sheets[sheet] = sort < 0 ? null : sort == 0 ? new byte[n] : sort == 1 ? new short[n] : new int[n];
            return 1;
        } catch (NegativeArraySizeException e) {
            return -14;
        }
    }

    int cell(int sheet, int i, int v) {
        if (!in(sheet, 0, 3)) return -2;
        try {
            Object row = sheets[sheet];
            if (row instanceof byte[] b) b[i] = (byte) v;
            else if (row instanceof short[] s) s[i] = (short) v;
            else ((int[]) row)[i] = v;
            return 1;
        } catch (NullPointerException e) {
            return -11;
        } catch (ArrayIndexOutOfBoundsException e) {
            return -12;
        }
    }

    int copy(int sheet, int i, int other, int j, int n) {
        if (!in(sheet, 0, 3) || !in(other, 0, 3)) return -2;
        try {
            System.arraycopy(sheets[sheet], i, sheets[other], j, n);
            return n;
        } catch (NullPointerException e) {
            return -11;
        } catch (ArrayStoreException e) {
            return -13;
        } catch (IndexOutOfBoundsException e) {
            return -12;
        }
    }

    int people(int sheet, int sort, int from, int n) {
        if (!in(sheet, 0, 3) || !in(sort, 0, 2) || !in(n, 0, 5)) return -2;
        Object row = sheets[sheet];
        if (row != null && sort(row) != sort) return -13;
        if (row == null) return -11;
        int came = 0;
        for (int i = 0; i < n; i++) {
            try {
                int at = from + 3 * i;
                came += person(at(row, at), at(row, at + 1), at(row, at + 2)) >= 0 ? 1 : 0;
            } catch (ArrayIndexOutOfBoundsException e) {
                return -12;
            }
        }
        return came;
    }

    int taken(int one, int k) {
        if (!in(k, 0, 5)) return -2;
        if (!has(one)) return -11;
        Class<?>[] kinds = {Person.class, Scamp.class, Saint.class, Banker.class, Nun.class, Clerk.class};
        return kinds[k].isInstance(people.get(one)) ? people.get(one).number : -13;
    }
}
