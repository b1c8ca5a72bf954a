import java.util.ArrayList;
import java.util.Comparator;
import java.util.HashMap;
import java.util.List;
import java.util.Map;
import java.util.NoSuchElementException;
import java.util.Set;
import java.util.TreeSet;
import java.util.function.ToIntFunction;
import java.util.regex.Matcher;
import java.util.regex.Pattern;

/**
 * The document told a second time, in another way than LeapCapital does (lists, functions, a year at a time),
 * to compare the two over drawn runs of calls.
 */
final class Model {
    private static final Pattern TOKEN = Pattern.compile("[a-z]+|[0-9]+|[^\\n ]");
    private static final Set<String> KEPT = Set.of("person", "born", "plea", "year", "candle", "lives", "first", "come",
            "leave", "lamp", "wait", "ride", "plain", "leap", "heir", "lover", "not", "and", "or");
    private static final List<String> KINDS = List.of("plain", "leap", "heir", "lover");

    record Person(String name, int kind, int born, int plea) {
    }

    record Line(String act, int part) {
    }

    record Facts(int stood, int asks, int age, int days) {
    }

    record Saying(int years, boolean leap) {
    }

    /** A fault, thrown from wherever in the grammar it is met. */
    static final class Fault extends RuntimeException {
        private static final long serialVersionUID = 1L;
        final int code;

        Fault(int kind, int place) {
            code = kind + 16 * place;
        }
    }

    static final class Realm {
        final List<Person> people = new ArrayList<>();
        final Map<String, Integer> told = new HashMap<>(Map.of());
        ToIntFunction<Facts> law = Facts::stood;

        int get(String word, int without) {
            return told.getOrDefault(word, without);
        }
    }

    static final class State {
        int year;
        int lamps;
        List<Integer> queue = new ArrayList<>();
        TreeSet<Integer> heard = new TreeSet<>();
        Map<Integer, Integer> came = new HashMap<>();
        Map<Integer, Integer> days = new HashMap<>();
        int called;
        int burnt;

        State copy() {
            State s = new State();
            s.year = year;
            s.lamps = lamps;
            s.queue = new ArrayList<>(queue);
            s.heard = new TreeSet<>(heard);
            s.came = new HashMap<>(came);
            s.days = new HashMap<>(days);
            return s;
        }
    }

    record Held(State state, List<Line> reign, List<Saying> said) {
    }

    private String tape = "";
    private Realm realm = new Realm();
    private List<Line> reign = List.of();
    private List<Saying> said = List.of();
    private State now = beginning();
    private final List<State> past = new ArrayList<>();
    private final Held[] marks = new Held[4];

    // ---- reading ----

    private final class Text {
        final List<String> tokens = new ArrayList<>();
        final List<Integer> places = new ArrayList<>();
        int at = 0;

        Text(String text) {
            Matcher m = TOKEN.matcher(text);
            while (m.find()) {
                tokens.add(m.group());
                places.add(m.start());
            }
            tokens.add("");
            places.add(text.length());
        }

        String look() {
            return tokens.get(at);
        }

        Fault fault(int kind) {
            return new Fault(kind, places.get(at));
        }

        boolean isWord() {
            return look().matches("[a-z]{1,8}");
        }

        boolean isNumber() {
            return look().matches("[0-9]{1,4}");
        }

        void expect(String... ones) {
            if (!List.of(ones).contains(look())) {
                throw fault(1);
            }
            at++;
        }

        int number(int least, int most) {
            if (!isNumber()) {
                throw fault(1);
            }
            int n = Integer.parseInt(look());
            if (n < least || n > most) {
                throw fault(4);
            }
            at++;
            return n;
        }

        String name() {
            if (!isWord() || KEPT.contains(look())) {
                throw fault(1);
            }
            return look();
        }

        ToIntFunction<Facts> e(int within) {
            ToIntFunction<Facts> left = test(within);
            while (look().equals("and") || look().equals("or")) {
                boolean and = look().equals("and");
                at++;
                ToIntFunction<Facts> a = left;
                ToIntFunction<Facts> b = test(within);
                left = f -> {
                    boolean x = a.applyAsInt(f) != 0;
                    boolean y = b.applyAsInt(f) != 0;
                    return (and ? x && y : x || y) ? 1 : 0;
                };
            }
            return left;
        }

        ToIntFunction<Facts> test(int within) {
            ToIntFunction<Facts> a = sum(within);
            if (look().equals("<")) {
                at++;
                ToIntFunction<Facts> b = sum(within);
                return f -> a.applyAsInt(f) < b.applyAsInt(f) ? 1 : 0;
            }
            if (look().equals("=")) {
                at++;
                ToIntFunction<Facts> b = sum(within);
                return f -> a.applyAsInt(f) == b.applyAsInt(f) ? 1 : 0;
            }
            return a;
        }

        ToIntFunction<Facts> sum(int within) {
            ToIntFunction<Facts> left = product(within);
            while (look().equals("+") || look().equals("-")) {
                int sign = look().equals("+") ? 1 : -1;
                at++;
                ToIntFunction<Facts> a = left;
                ToIntFunction<Facts> b = product(within);
                left = f -> a.applyAsInt(f) + sign * b.applyAsInt(f);
            }
            return left;
        }

        ToIntFunction<Facts> product(int within) {
            ToIntFunction<Facts> left = part(within);
            while (look().equals("*")) {
                at++;
                ToIntFunction<Facts> a = left;
                ToIntFunction<Facts> b = part(within);
                left = f -> a.applyAsInt(f) * b.applyAsInt(f);
            }
            return left;
        }

        ToIntFunction<Facts> part(int within) {
            String token = look();
            if (!isNumber() && !List.of("stood", "asks", "age", "days", "not", "(").contains(token)) {
                throw fault(1);
            }
            if (within == 5) {
                throw fault(5);
            }
            at++;
            switch (token) {
                case "stood": return Facts::stood;
                case "asks": return Facts::asks;
                case "age": return Facts::age;
                case "days": return Facts::days;
                case "not":
                    ToIntFunction<Facts> a = part(within + 1);
                    return f -> a.applyAsInt(f) == 0 ? 1 : 0;
                case "(":
                    ToIntFunction<Facts> b = e(within + 1);
                    expect(")");
                    return b;
                default:
                    int n = Integer.parseInt(token);
                    return f -> n;
            }
        }

        Realm realm() {
            Realm r = new Realm();
            while (!look().isEmpty()) {
                String word = look();
                switch (word) {
                    case "person":
                        person(r);
                        break;
                    case "year":
                    case "candle":
                    case "lives":
                    case "first":
                        if (r.told.containsKey(word)) {
                            throw fault(3);
                        }
                        at++;
                        if (word.equals("first")) {
                            r.law = e(0);
                            r.told.put(word, 1);
                        } else {
                            r.told.put(word, number(1, Map.of("year", 3000, "candle", 40, "lives", 120).get(word)));
                        }
                        break;
                    default:
                        throw fault(1);
                }
                expect(";");
            }
            return r;
        }

        void person(Realm r) {
            if (r.people.size() == 6) {
                throw fault(5);
            }
            at++;
            String name = name();
            if (r.people.stream().anyMatch(p -> p.name().equals(name))) {
                throw fault(3);
            }
            at++;
            String kind = look();
            expect(KINDS.toArray(new String[0]));
            expect("born");
            int born = number(1, 3000);
            expect("plea");
            r.people.add(new Person(name, KINDS.indexOf(kind), born, number(1, 20)));
        }

        List<Line> reign() {
            List<Line> lines = new ArrayList<>();
            while (!look().isEmpty()) {
                String act = look();
                if (!List.of("come", "leave", "lamp", "wait", "ride").contains(act)) {
                    throw fault(1);
                }
                if (lines.size() == 40) {
                    throw fault(5);
                }
                at++;
                int part = 0;
                if (act.equals("lamp")) {
                    part = number(1, 20);
                } else if (act.equals("come") || act.equals("leave")) {
                    String name = name();
                    List<String> names = realm.people.stream().map(Person::name).toList();
                    part = names.indexOf(name);
                    if (part < 0) {
                        throw fault(2);
                    }
                    at++;
                }
                expect(";");
                lines.add(new Line(act, part));
            }
            return lines;
        }
    }

    int feed(long a, long b, long c) {
        StringBuilder all = new StringBuilder(tape);
        for (long eight : new long[] {a, b, c}) {
            for (int i = 7; i >= 0; i--) {
                int sign = (int) (eight >>> 8 * i) & 255;
                if ((sign == 10 || sign > 31 && sign < 127) && all.length() < 1000) {
                    all.append((char) sign);
                }
            }
        }
        tape = all.toString();
        return tape.length();
    }

    int realm() {
        Text text = new Text(tape);
        tape = "";
        try {
            realm = text.realm();
        } catch (Fault f) {
            return f.code;
        }
        now = beginning();
        reign = List.of();
        said = List.of();
        past.clear();
        java.util.Arrays.fill(marks, null);
        return 0;
    }

    int reign() {
        Text text = new Text(tape);
        tape = "";
        try {
            reign = text.reign();
        } catch (Fault f) {
            return f.code;
        }
        return 0;
    }

    // ---- the rules ----

    private State beginning() {
        State s = new State();
        s.year = realm.get("year", 1896);
        return s;
    }

    private int candle() {
        return realm.get("candle", 10);
    }

    private static boolean isLeap(int y) {
        return y % 400 == 0 || y % 100 != 0 && y % 4 == 0;
    }

    private boolean isDead(int p, int year) {
        Person one = realm.people.get(p);
        return one.kind() != 2 && year >= one.born() + realm.get("lives", 70);
    }

    private boolean is(int p) {
        return p >= 0 && p < realm.people.size();
    }

    private boolean canCome(State s, int p) {
        return is(p) && !s.queue.contains(p) && !s.heard.contains(p) && !isDead(p, s.year)
                && realm.people.get(p).born() <= s.year;
    }

    private void doCome(State s, int p) {
        s.queue.add(p);
        s.came.put(p, s.year);
        s.days.put(p, 0);
    }

    private List<Integer> order(State s) {
        List<Integer> row = new ArrayList<>(s.queue);
        Map<Integer, Integer> worth = new HashMap<>();
        for (int p : row) {
            Person one = realm.people.get(p);
            worth.put(p, realm.law.applyAsInt(
                    new Facts(s.year - s.came.get(p), one.plea(), s.year - one.born(), s.days.get(p))));
        }
        Comparator<Integer> byKind = Comparator.comparing(p -> realm.people.get(p).kind() == 1 ? 0 : 1);
        row.sort(byKind.thenComparing(worth::get, Comparator.reverseOrder()));
        return row;
    }

    /** One year on: who is HEARD. */
    private Set<Integer> year(State s, int candle, boolean julian) {
        s.year++;
        s.queue.removeIf(p -> isDead(p, s.year));
        Set<Integer> heard = new TreeSet<>();
        if (julian ? s.year % 4 != 0 : !isLeap(s.year)) {
            return heard;
        }
        int all = candle + s.lamps;
        int left = all;
        List<Integer> row = order(s);
        s.called = row.size();
        for (int p : row) {
            Person one = realm.people.get(p);
            int plea = one.plea();
            if (one.kind() == 3 && heard.stream().anyMatch(q -> realm.people.get(q).kind() == 3)) {
                plea = plea < 2 ? 1 : plea >> 1;
            }
            if (left >= plea) {
                left -= plea;
                heard.add(p);
            }
        }
        s.burnt = all - left;
        s.queue.removeAll(heard);
        s.heard.addAll(heard);
        s.lamps = 0;
        s.queue.forEach(p -> s.days.merge(p, 1, Integer::sum));
        return heard;
    }

    private Set<Integer> day(State s, int candle) {
        Set<Integer> heard;
        do {
            heard = year(s, candle, false);
        } while (!isLeap(s.year));
        return heard;
    }

    private static int bits(Iterable<Integer> people) {
        int bits = 0;
        for (int p : people) {
            bits |= 1 << p;
        }
        return bits;
    }

    private void remember() {
        past.add(now.copy());
        if (past.size() > 16) {
            past.remove(0);
        }
    }

    // ---- the face ----

    int person(int p, int what) {
        if (!is(p)) {
            return -2;
        }
        Person one = realm.people.get(p);
        boolean there = now.queue.contains(p);
        int[] all = {one.kind(), one.born(), one.plea(), now.queue.indexOf(p), now.heard.contains(p) ? 1 : 0,
            isDead(p, now.year) ? 1 : 0, there ? now.year - now.came.get(p) : 0, there ? now.days.get(p) : 0};
        return what < 0 || what > 7 ? -2 : all[what];
    }

    int come(int p) {
        if (!canCome(now, p)) {
            return -1;
        }
        remember();
        doCome(now, p);
        return now.queue.size() - 1;
    }

    boolean leave(int p) {
        if (!now.queue.contains(p)) {
            return false;
        }
        remember();
        now.queue.remove((Integer) p);
        return true;
    }

    private static void light(State s, int more) {
        s.lamps += more;
        if (s.lamps > 60) {
            s.lamps = 60;
        }
    }

    int lamp(int more) {
        if (more <= 0 || more >= 21) {
            return -1;
        }
        remember();
        light(now, more);
        return now.lamps;
    }

    int waits() {
        remember();
        return bits(year(now, candle(), false));
    }

    int ride() {
        remember();
        return bits(day(now, candle()));
    }

    boolean undo() {
        if (past.isEmpty()) {
            return false;
        }
        now = past.remove(past.size() - 1);
        return true;
    }

    int judged(int what) {
        State s = beginning();
        int wrong = -1;
        int heard = -1;
        for (int i = 0; i < reign.size(); i++) {
            Line line = reign.get(i);
            boolean can = true;
            switch (line.act()) {
                case "come":
                    can = canCome(s, line.part());
                    if (can) {
                        doCome(s, line.part());
                    }
                    break;
                case "leave":
                    can = s.queue.remove((Integer) line.part());
                    break;
                case "lamp":
                    light(s, line.part());
                    break;
                case "wait":
                    year(s, candle(), false);
                    break;
                default:
                    day(s, candle());
            }
            wrong = !can && wrong < 0 ? i : wrong;
            heard = !s.heard.isEmpty() && heard < 0 ? i : heard;
        }
        return what == 0 ? wrong : what == 1 ? heard : what == 2 ? s.heard.size() : -2;
    }

    int call(int i) {
        return i < 0 || i >= now.queue.size() ? -1 : order(now).get(i);
    }

    int when(int p) {
        State s = now.copy();
        for (int i = 1; i < 100 && now.queue.contains(p); i++) {
            if (year(s, candle(), false).contains(p)) {
                return i;
            }
        }
        return -1;
    }

    int ahead(int i, int what) {
        if (i < 1 || i > 12) {
            return -1;
        }
        State s = now.copy();
        Set<Integer> heard = Set.of();
        for (int k = 0; k < i; k++) {
            heard = day(s, candle());
        }
        return what == 0 ? bits(heard) : what == 1 ? s.burnt : s.called;
    }

    int exchange(int p, int q) {
        if (p == q || !now.queue.contains(p) || !now.queue.contains(q)) {
            return -1;
        }
        State s = now.copy();
        java.util.Collections.swap(s.queue, s.queue.indexOf(p), s.queue.indexOf(q));
        return bits(day(s, candle()));
    }

    int need(int p) {
        for (int c = 1; c < 100 && now.queue.contains(p); c++) {
            if (day(now.copy(), c).contains(p)) {
                return c;
            }
        }
        return -1;
    }

    private void rows(List<Integer> row, List<Integer> left, List<List<Integer>> all) {
        if (left.isEmpty()) {
            all.add(row);
        }
        for (int p : left) {
            List<Integer> longer = new ArrayList<>(row);
            longer.add(p);
            List<Integer> rest = new ArrayList<>(left);
            rest.remove((Integer) p);
            rows(longer, rest, all);
        }
    }

    int coming(int days, int what) {
        if (days < 1 || days > 4 || what < -1) {
            return -2;
        }
        List<Integer> able = new ArrayList<>();
        for (int p = 0; p < realm.people.size(); p++) {
            if (canCome(now, p)) {
                able.add(p);
            }
        }
        List<List<Integer>> all = new ArrayList<>();
        rows(List.of(), able, all);
        int most = -1;
        List<Integer> best = List.of();
        for (List<Integer> row : all) {
            State s = now.copy();
            row.forEach(p -> doCome(s, p));
            for (int i = 0; i < days; i++) {
                day(s, candle());
            }
            int more = s.heard.size() - now.heard.size();
            if (more > most) {
                most = more;
                best = row;
            }
        }
        return what == -1 ? most : what < best.size() ? best.get(what) : -2;
    }

    int lastday(int p) {
        int last = -1;
        if (is(p) && realm.people.get(p).kind() != 2) {
            for (int y = realm.people.get(p).born(); !isDead(p, y); y++) {
                last = isLeap(y) ? y : last;
            }
        }
        return last;
    }

    int old(int p) {
        int many = 0;
        for (int y = is(p) ? realm.people.get(p).born() + 1 : 9999; y <= now.year; y++) {
            many += isLeap(y) ? 1 : 0;
        }
        return is(p) ? many : -1;
    }

    int julian(int years) {
        if (years < 1 || years > 99) {
            return -1;
        }
        State s = now.copy();
        State t = now.copy();
        for (int i = 0; i < years; i++) {
            year(s, candle(), true);
            year(t, candle(), false);
        }
        s.heard.removeAll(t.heard);
        return bits(s.heard);
    }

    int stale() {
        State s = now.copy();
        Set<Integer> stale = new TreeSet<>();
        for (int i = 0; i < 99; i++) {
            for (int p : s.queue) {
                if (isDead(p, s.year + 1)) {
                    stale.add(p);
                }
            }
            year(s, candle(), false);
        }
        return bits(stale);
    }

    boolean say(int years, boolean leap) {
        if (years < 0 || years > 40 || said.size() == 8) {
            return false;
        }
        said = new ArrayList<>(said);
        said.add(new Saying(years, leap));
        return true;
    }

    private List<Integer> fitting() {
        List<Integer> all = new ArrayList<>();
        for (int y = 1; y <= 2000; y++) {
            int unknown = y;
            if (said.stream().allMatch(one -> isLeap(unknown + one.years()) == one.leap())) {
                all.add(y);
            }
        }
        return all;
    }

    int fits(int what) {
        List<Integer> all = fitting();
        if (what == 0) {
            return all.size();
        }
        return all.isEmpty() || what < 1 || what > 2 ? -1 : all.get(what == 1 ? 0 : all.size() - 1);
    }

    int ask() {
        List<Integer> all = fitting();
        int best = -1;
        long least = all.size();
        for (int k = 0; k <= 40; k++) {
            int behind = k;
            long leaps = all.stream().filter(y -> isLeap(y + behind)).count();
            long greater = Math.max(leaps, all.size() - leaps);
            if (greater < least) {
                least = greater;
                best = k;
            }
        }
        return best;
    }

    /** In fractions of 10 to the power of how many others there are. */
    int chance(int p, int odds) {
        if (!now.queue.contains(p) || odds < 0 || odds > 10) {
            return -1;
        }
        List<Integer> others = new ArrayList<>(now.queue);
        others.remove((Integer) p);
        long sum = chanceFrom(now.copy(), p, odds, others);
        return (int) (sum * 1000000 / (long) Math.pow(10, others.size()));
    }

    private long chanceFrom(State s, int p, int odds, List<Integer> open) {
        if (open.isEmpty()) {
            return day(s, candle()).contains(p) ? 1 : 0;
        }
        List<Integer> rest = open.subList(1, open.size());
        State gone = s.copy();
        gone.queue.remove(open.get(0));
        return odds * chanceFrom(s, p, odds, rest) + (10 - odds) * chanceFrom(gone, p, odds, rest);
    }

    int rests(int lose, int goes, int stays, int what) {
        for (int n : new int[] {lose, goes, stays}) {
            if (n < 0 || n > 9) {
                throw new NoSuchElementException();
            }
        }
        // By the other one's choice: what one gets by staying, by going in.
        int[][] gets = {{0, goes}, {stays, -lose}};
        List<Integer> all = new ArrayList<>();
        for (int a = 0; a < 2; a++) {
            for (int b = 0; b < 2; b++) {
                if (gets[b][a] >= gets[b][1 - a] && gets[a][b] >= gets[a][1 - b]) {
                    all.add(2 * a + b);
                }
            }
        }
        if (what < -1 || what >= all.size()) {
            throw new NoSuchElementException();
        }
        return what == -1 ? all.size() : all.get(what);
    }

    private static int draw(java.math.BigInteger[] g, int below) {
        g[0] = g[0].multiply(java.math.BigInteger.valueOf(1103515245)).add(java.math.BigInteger.valueOf(12345))
                .mod(java.math.BigInteger.ONE.shiftLeft(31));
        return g[0].shiftRight(16).mod(java.math.BigInteger.valueOf(below)).intValue();
    }

    int ages(int seed, int years, int what) {
        if (seed < 0 || seed > 9999 || years < 1 || years > 99 || what < 0 || what > 2) {
            return -1;
        }
        java.math.BigInteger[] g = {java.math.BigInteger.valueOf(seed)};
        State s = now.copy();
        int heard = 0;
        for (int i = 0; i < years; i++) {
            if (!realm.people.isEmpty()) {
                Integer p = draw(g, realm.people.size());
                if (canCome(s, p)) {
                    doCome(s, p);
                } else if (s.queue.contains(p)) {
                    if (draw(g, 8) == 0) {
                        s.queue.remove(p);
                    }
                }
            }
            if (draw(g, 6) == 0) {
                light(s, 1 + draw(g, 20));
            }
            heard += year(s, candle(), false).size();
        }
        return what == 0 ? heard : what == 1 ? bits(s.queue) : s.year;
    }

    boolean mark(int mark, boolean back) {
        if (mark < 0 || mark > 3 || back && marks[mark] == null) {
            return false;
        }
        if (back) {
            now = marks[mark].state().copy();
            reign = marks[mark].reign();
            said = marks[mark].said();
            past.clear();
        } else {
            marks[mark] = new Held(now.copy(), reign, said);
        }
        return true;
    }

    int count(int what) {
        List<Integer> dead = new ArrayList<>();
        for (int p = 0; p < realm.people.size(); p++) {
            if (isDead(p, now.year)) {
                dead.add(p);
            }
        }
        int[] all = {realm.people.size(), now.year, candle(), realm.get("lives", 70), now.lamps, now.queue.size(),
            bits(now.queue), bits(now.heard), bits(dead), reign.size(), said.size(), past.size(), tape.length()};
        return what < 0 || what > 12 ? -1 : all[what];
    }
}
