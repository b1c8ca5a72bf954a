/**
 * Wherever a DAY is held, they are called in the order of CALL: the DAYS since one came are those that
 * person(.., 7) tells, without the DAY that is being held. The laws here are not linear in days.
 */
public final class DaysTest {
    /** With two lamps there is light for one of the two alone: for a, as he has seen one DAY, and b none. */
    private static final String TWO = "person a plain born 1880 plea 2;person b plain born 1880 plea 3;candle 1;first days=1;";
    private static final String FOUR = "person a plain born 1880 plea 3;person b plain born 1880 plea 2;"
            + "person c leap born 1880 plea 3;person d leap born 1880 plea 3;candle 3;";
    private static final String[] LAWS = {"days=1", "not(days=0)", "0<days and days<2", "days*(2-days)", "4*days-days*days*3",
        "(days=1)*9-(days=2)*9"};

    public static void main(String[] args) {
        byHand();
        reigns();
        nextDay();
        laterDays();
        candlesAndOdds();
        comings();
        oldCalendar();
        ages();
        Check.end();
    }

    /** In 1904 or 1896 a was called in vain; b came behind that DAY. */
    private static LeapCapital two(String more) {
        LeapCapital x = Check.told(TWO + more);
        x.come(0);
        Check.due("nobody is heard", x.ride(), 0);
        x.come(1);
        Check.due("days of a", x.person(0, 7), 1);
        Check.due("days of b", x.person(1, 7), 0);
        Check.dueCalls(x, "01");
        x.lamp(2);
        return x;
    }

    private static void byHand() {
        LeapCapital x = two("");
        for (int i = 0; i < 3; i++) {
            Check.due("no DAY", x.waits(), 0);
            Check.dueCalls(x, "01");
        }
        Check.due("waits", x.waits(), 1);
        Check.due("days of a, heard", x.person(0, 7), 0);
        Check.due("days of b, behind that DAY", x.person(1, 7), 1);
        x.undo();
        Check.due("days of a, undone", x.person(0, 7), 1);
        Check.due("days of b, undone", x.person(1, 7), 0);
        Check.due("ride", x.ride(), 1);
        Check.due("days of b, behind that DAY", x.person(1, 7), 1);
        // Who came a second time has seen none since.
        LeapCapital y = two("");
        y.leave(0);
        y.come(0);
        Check.due("days of a, come again", y.person(0, 7), 0);
        Check.dueCalls(y, "10");
        Check.due("ride", y.ride(), 2);
        // The first DAY of both: none is behind them.
        for (String law : LAWS) {
            String people = "person a plain born 1880 plea 3;person b plain born 1880 plea 3;candle 1;first ";
            LeapCapital z = Check.told(people + law + ";");
            z.come(1);
            z.ride();
            z.come(0);
            z.leave(0);
            z.come(0);
            Check.dueCalls(z, "10");
            z.lamp(2);
            Check.due("ride by " + law, z.ride(), 2);
        }
    }

    private static void reigns() {
        LeapCapital x = Check.told(TWO);
        // a is heard: he can't leave; b can.
        for (String way : new String[] {"ride;", "wait;wait;wait;wait;"}) {
            int line = way.equals("ride;") ? 5 : 8;
            Check.due("reign", Check.reign(x, "come a;ride;come b;lamp 2;" + way + "leave b;leave a;"), 0);
            Check.due("judged(0)", x.judged(0), line + 1);
            Check.due("judged(1)", x.judged(1), line - 1);
            Check.due("judged(2)", x.judged(2), 1);
        }
    }

    private static void nextDay() {
        LeapCapital x = two("");
        Check.due("when(0)", x.when(0), 4);
        Check.due("when(1)", x.when(1), -1);
        Check.due("audience(1)", x.audience(1), 1);
        Check.due("audience(2)", x.audience(2), 0);
        Check.due("burnt(1)", x.burnt(1), 2);
        Check.due("crowd(1)", x.crowd(1), 2);
        Check.due("exchange(0, 1)", x.exchange(0, 1), 1);
        Check.due("exchange(1, 0)", x.exchange(1, 0), 1);
        Check.due("stale", x.stale(), 2);
        Check.due("asked only", x.person(0, 7), 1);
        LeapCapital y = three();
        Check.due("audience(1)", y.audience(1), 1);
        Check.due("crowd(2): b and c are left", y.crowd(2), 2);
        Check.due("burnt(2)", y.burnt(2), 1);
    }

    /** If a is called first he alone is heard; else the two others are. */
    private static LeapCapital three() {
        LeapCapital x = Check.told("person a plain born 1880 plea 3;person b plain born 1880 plea 2;"
                + "person c plain born 1880 plea 1;candle 1;first days=1;");
        x.come(0);
        x.ride();
        x.come(1);
        x.come(2);
        x.lamp(2);
        return x;
    }

    /** On the first DAY d takes all, then c; on the third one a has seen two, b one. */
    private static void comeBehindOneAnother(LeapCapital x) {
        x.come(3);
        x.come(0);
        Check.due("d alone", x.ride(), 8);
        x.come(1);
        x.come(2);
    }

    private static void laterDays() {
        String[][] laws = {{"days=2", "1"}, {"days=1", "2"}, {"days=3", "1"}, {"not(days=1)", "1"}, {"days<2", "2"}, {"1<days", "1"}};
        for (String[] law : laws) {
            LeapCapital x = Check.told(FOUR + "first " + law[0] + ";");
            comeBehindOneAnother(x);
            int heard = Integer.parseInt(law[1]);
            Check.due("audience(1)", x.audience(1), 4);
            Check.due("audience(2) by " + law[0], x.audience(2), heard);
            Check.due("audience(3) by " + law[0], x.audience(3), 3 - heard);
            Check.due("burnt(2) by " + law[0], x.burnt(2), heard == 1 ? 3 : 2);
            Check.due("when(0) by " + law[0], x.when(0), heard == 1 ? 8 : 12);
            Check.due("when(1) by " + law[0], x.when(1), heard == 1 ? 12 : 8);
            x.ride();
            Check.due("days of a", x.person(0, 7), 2);
            Check.due("days of b", x.person(1, 7), 1);
            Check.due("ride by " + law[0], x.ride(), heard);
        }
    }

    private static void candlesAndOdds() {
        LeapCapital x = two("");
        Check.due("need(0)", x.need(0), 1);
        Check.due("need(1)", x.need(1), 3);
        Check.due("chance(0, 10)", x.chance(0, 10), 1000000);
        Check.due("chance(0, 3)", x.chance(0, 3), 1000000);
        Check.due("chance(1, 10)", x.chance(1, 10), 0);
        Check.due("chance(1, 3)", x.chance(1, 3), 700000);
    }

    private static void comings() {
        LeapCapital x = three();
        x.leave(1);
        x.leave(2);
        Check.due("coming(1, -1): a alone", x.coming(1, -1), 1);
        Check.due("coming(2, -1): c, too", x.coming(2, -1), 2);
        // On the first DAY all have seen none: the order of coming is that of calling.
        LeapCapital y = Check.told("person a plain born 1880 plea 3;person b plain born 1880 plea 2;"
                + "person c plain born 1880 plea 1;candle 3;first (days=1)*asks;");
        Check.due("coming(1, -1)", y.coming(1, -1), 2);
        Check.due("coming(1, 0)", y.coming(1, 0), 1);
        Check.due("coming(1, 1)", y.coming(1, 1), 0);
        Check.due("coming(1, 2)", y.coming(1, 2), 2);
        Check.due("coming(2, -1)", y.coming(2, -1), 3);
    }

    private static void oldCalendar() {
        LeapCapital x = two("year 1892;");
        Check.due("year", x.count(1), 1896);
        Check.due("julian(3)", x.julian(3), 0);
        Check.due("julian(4): a in 1900", x.julian(4), 1);
        Check.due("julian(8): a in 1904, too", x.julian(8), 0);
        // By the old calendar 1900 is a DAY that counts: in 1904 a has seen two, b one.
        LeapCapital y = Check.told(FOUR + "year 1892;first days=1;");
        comeBehindOneAnother(y);
        Check.due("julian(4): c in 1900", y.julian(4), 4);
        Check.due("julian(8): b in 1904, where c is heard else", y.julian(8), 2);
        Check.due("julian(12): a in 1908, where b is heard else", y.julian(12), 1);
        Check.due("julian(16)", y.julian(16), 0);
    }

    private static void ages() {
        LeapCapital x = two("");
        x.undo();
        int seeds = 0;
        for (int seed = 0; seed < 10000 && seeds < 20; seed++) {
            if (lampOfTwo(seed)) {
                seeds++;
                Check.due("ages: HEARD", x.ages(seed, 4, 0), 1);
                Check.due("ages: b is left", x.ages(seed, 4, 1), 2);
                Check.due("ages: the year", x.ages(seed, 4, 2), 1908);
            }
        }
        Check.due("there are such seeds", seeds > 0, true);
    }

    /** Whether in four years, both being in the QUEUE, nobody leaves, and there is one lamp, of 2. */
    private static boolean lampOfTwo(int seed) {
        long g = seed;
        int lamps = 0;
        for (int i = 0; i < 4; i++) {
            g = step(g);
            g = step(g);
            if (g / 65536 % 8 == 0) {
                return false;
            }
            g = step(g);
            if (g / 65536 % 6 == 0) {
                g = step(g);
                lamps += g / 65536 % 20 + 1;
            }
        }
        return lamps == 2;
    }

    private static long step(long g) {
        return (g * 1103515245L + 12345L) % 2147483648L;
    }
}
