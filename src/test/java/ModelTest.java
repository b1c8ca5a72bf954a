import java.util.NoSuchElementException;
import java.util.Random;

/** Drawn runs of calls on LeapCapital and on the Model of the tests: the answers are alike. */
public final class ModelTest {
    private static final int RUNS = 400;
    private static final int CALLS = 120;
    private static final String[] TOKENS = {"person", "born", "plea", "year", "candle", "lives", "first", "come", "leave",
        "lamp", "wait", "ride", "plain", "leap", "heir", "lover", "not", "and", "or", "stood", "asks", "age", "days", "(", ")",
        "<", "=", "+", "-", "*", ";", "0", "1", "7", "21", "1900", "3001", "12345", "pa", "pb", "abcdefghi", "?", "A", "\n", ""};

    public static void main(String[] args) {
        int runs = args.length > 0 ? Integer.parseInt(args[0]) : RUNS;
        for (int seed = 0; seed < runs; seed++) {
            new ModelTest(seed).run();
        }
        Check.end();
    }

    private final int seed;
    private final Random random;
    private final LeapCapital x = new LeapCapital();
    private final Model m = new Model();

    private ModelTest(int seed) {
        this.seed = seed;
        random = new Random(seed);
    }

    private void due(String call, long got, long want) {
        Check.due("seed " + seed + ": " + call, got, want);
    }

    private void due(String call, boolean got, boolean want) {
        Check.due("seed " + seed + ": " + call, got, want);
    }

    private int below(int n) {
        return random.nextInt(n);
    }

    private void run() {
        read(drawRealm(), false);
        for (int i = 0; i < CALLS; i++) {
            // Some runs say and mark a lot.
            int sort = seed % 5 == 0 && below(3) == 0 ? 100 : below(100);
            if (sort < 3) {
                read(below(2) == 0 ? drawRealm() : spoilt(drawRealm()), false);
            } else if (sort < 9) {
                read(below(3) > 0 ? drawReign() : spoilt(drawReign()), true);
            } else if (sort < 50) {
                act();
            } else if (sort < 100) {
                askOf();
            } else {
                sayAndMark();
            }
        }
        for (int what = -1; what <= 13; what++) {
            due("count(" + what + ")", x.count(what), m.count(what));
        }
    }

    private void read(String text, boolean reign) {
        for (int i = 0; i < text.length(); i += 24) {
            long a = Check.eight(text, i);
            long b = Check.eight(text, i + 8);
            long c = Check.eight(text, i + 16);
            due("feed", x.feed(a, b, c), m.feed(a, b, c));
        }
        if (reign) {
            due("reign() of " + text, x.reign(), m.reign());
        } else {
            due("realm() of " + text, x.realm(), m.realm());
        }
    }

    private String drawRealm() {
        int people = below(8) == 0 ? below(8) : 3 + below(4);
        // Often a little ahead of a year that 100 divides, where the calendars part.
        int year = below(2) == 0 ? 1 + below(3000) : 1 + 100 * (1 + below(25)) - below(12);
        int lives = 1 + below(120);
        StringBuilder text = new StringBuilder("year " + Math.min(3000, year) + ";");
        for (int p = 0; p < people; p++) {
            int born = Math.max(1, Math.min(3000, year - below(lives + 3) + 8 - below(6)));
            text.append("person p").append((char) ('a' + p)).append(' ')
                    .append(TOKENS[12 + below(4)]).append(" born ").append(born).append(" plea ").append(1 + below(below(2) == 0 ? 8 : 20))
                    .append(below(4) == 0 ? " ;\n" : ";");
        }
        text.append("lives ").append(lives).append(';');
        if (below(3) > 0) {
            text.append("candle ").append(1 + below(40)).append(';');
        }
        if (below(4) > 0) {
            text.append("first ").append(below(3) == 0 ? drawLawOfDays() : drawLaw(0)).append(';');
        }
        return text.toString();
    }

    /** Not linear in days: a DAY more or less for all changes the order. */
    private String drawLawOfDays() {
        int n = below(4);
        String[] laws = {"days=" + n, "not(days=" + n + ")", "days<" + n, n + "<days", "days*(" + n + "-days)",
            "(days=" + n + ")*asks", "stood*(days<" + n + ")+asks", "(days=1)*9-(days=" + n + ")*age"};
        return laws[below(laws.length)];
    }

    private String drawLaw(int depth) {
        StringBuilder law = new StringBuilder(drawPart(depth));
        int more = below(depth == 0 ? 5 : 3);
        for (int i = 0; i < more; i++) {
            String[] joints = {"+", "-", "*", " and ", " or ", "+", "*", "-"};
            law.append(joints[below(joints.length)]).append(drawPart(depth));
            if (below(5) == 0) {
                law.append(below(2) == 0 ? "<" : "=").append(drawPart(depth)).append(" and ").append(drawPart(depth));
            }
        }
        return law.toString();
    }

    private String drawPart(int depth) {
        int sort = below(10);
        if (sort < 5) {
            return TOKENS[19 + below(4)];
        }
        if (sort < 7) {
            return Integer.toString(below(below(3) == 0 ? 10000 : 20));
        }
        if (depth > 3 + below(2)) {
            return "days";
        }
        return sort == 7 ? "not " + drawPart(depth + 1) : "(" + drawLaw(depth + 1) + ")";
    }

    private String drawReign() {
        StringBuilder text = new StringBuilder();
        int lines = below(10) == 0 ? 38 + below(5) : below(15);
        for (int i = 0; i < lines; i++) {
            String act = TOKENS[7 + below(5)];
            text.append(act);
            if (act.equals("come") || act.equals("leave")) {
                text.append(" p").append((char) ('a' + below(below(6) == 0 ? 7 : 4)));
            } else if (act.equals("lamp")) {
                text.append(' ').append(1 + below(20));
            }
            text.append(';');
        }
        return text.toString();
    }

    /** A text with something put in, taken out or put in another's place. */
    private String spoilt(String text) {
        if (text.isEmpty()) {
            return ";";
        }
        int at = below(text.length());
        int to = Math.min(text.length(), at + below(6));
        String put = below(3) == 0 ? "" : TOKENS[below(TOKENS.length)];
        String blank = below(2) == 0 ? " " : "";
        return text.substring(0, at) + blank + put + blank + text.substring(to);
    }

    private int person() {
        return below(9) - 1;
    }

    private void act() {
        int p = person();
        switch (below(12)) {
            case 0: case 1: case 2: case 3: case 4:
                due("come(" + p + ")", x.come(p), m.come(p));
                break;
            case 5:
                due("leave(" + p + ")", x.leave(p), m.leave(p));
                break;
            case 6:
                int more = below(24) - 1;
                due("lamp(" + more + ")", x.lamp(more), m.lamp(more));
                break;
            case 7: case 8:
                due("waits()", x.waits(), m.waits());
                break;
            case 9:
                due("ride()", x.ride(), m.ride());
                break;
            case 10:
                due("undo()", x.undo(), m.undo());
                break;
            default:
                int mark = below(6) - 1;
                boolean back = below(2) == 0;
                due("mark(" + mark + ", " + back + ")", x.mark(mark, back), m.mark(mark, back));
        }
        due("count(6)", x.count(6), m.count(6));
    }

    private void sayAndMark() {
        int years = below(42);
        boolean yes = below(3) == 0;
        int mark = below(4);
        due("say(" + years + ", " + yes + ")", x.say(years, yes), m.say(years, yes));
        due("mark(" + mark + ", " + yes + ")", x.mark(mark, yes), m.mark(mark, yes));
        due("fits(0)", x.fits(0), m.fits(0));
        due("ask()", x.ask(), m.ask());
    }

    private void askOf() {
        int p = person();
        int q = person();
        int i = below(15) - 1;
        int what = below(5) - 1;
        int years = below(102);
        switch (below(22)) {
            case 0: due("person(" + p + ", " + i + ")", x.person(p, i), m.person(p, i)); break;
            case 1: due("judged(" + what + ")", x.judged(what), m.judged(what)); break;
            case 2: case 3: due("call(" + p + ")", x.call(p), m.call(p)); break;
            case 4: due("when(" + p + ")", x.when(p), m.when(p)); break;
            case 5: due("audience(" + i + ")", x.audience(i), m.ahead(i, 0)); break;
            case 6: due("burnt(" + i + ")", x.burnt(i), m.ahead(i, 1)); break;
            case 7: due("crowd(" + i + ")", x.crowd(i), m.ahead(i, 2)); break;
            case 8: due("exchange(" + p + ", " + q + ")", x.exchange(p, q), m.exchange(p, q)); break;
            case 9: due("lastday(" + p + ")", x.lastday(p), m.lastday(p)); break;
            case 10: case 11: due("need(" + p + ")", x.need(p), m.need(p)); break;
            case 12: due("coming(" + what + ", " + q + ")", x.coming(what, q), m.coming(what, q)); break;
            case 13: due("old(" + p + ")", x.old(p), m.old(p)); break;
            case 14: due("julian(" + years + ")", x.julian(years), m.julian(years)); break;
            case 15: due("stale()", x.stale(), m.stale()); break;
            case 16: due("say(" + years / 2 + ")", x.say(years / 2, q < 4), m.say(years / 2, q < 4)); break;
            case 17: due("fits(" + what + ")", x.fits(what), m.fits(what)); break;
            case 18: due("ask()", x.ask(), m.ask()); break;
            case 19: due("chance(" + p + ", " + (i - 1) + ")", x.chance(p, i - 1), m.chance(p, i - 1)); break;
            case 20:
                int seed = below(10002) - 1;
                due("ages(" + seed + ", " + years + ", " + what + ")", x.ages(seed, years, what), m.ages(seed, years, what));
                break;
            default: due("rests(" + p + ", " + q + ", " + what + ")", Check.rests(x, p, q, what, p - q), modelRests(p, q, what, p - q));
        }
    }

    private int modelRests(int lose, int goes, int stays, int what) {
        try {
            return m.rests(lose, goes, stays, what);
        } catch (NoSuchElementException e) {
            return -100;
        }
    }
}
