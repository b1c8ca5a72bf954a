/** Promises 5 to 12: people, what is done by hand, and reigns judged. */
public final class HandTest {
    private static final String FOUR = "person ann plain born 1850 plea 6;person bo leap born 1884 plea 5;"
            + "person cy heir born 1700 plea 4;person dee lover born 1899 plea 8;lives 60;candle 12;";

    private static final String SIXTY_THREE = "person a plain born 1890 plea 20;person b plain born 1890 plea 20;"
            + "person c plain born 1890 plea 20;person d plain born 1890 plea 1;person e plain born 1890 plea 1;"
            + "person f plain born 1890 plea 1;candle 1;";

    public static void main(String[] args) {
        people();
        comingAndLeaving();
        dying();
        lamps();
        waiting();
        theOrderOfHearing();
        lovers();
        riding();
        undoing();
        judging();
        Check.end();
    }

    private static void people() {
        LeapCapital x = Check.told(FOUR);
        int[][] facts = {{0, 1850, 6}, {1, 1884, 5}, {2, 1700, 4}, {3, 1899, 8}};
        for (int p = 0; p < 4; p++) {
            for (int what = 0; what < 3; what++) {
                Check.due("person(" + p + ", " + what + ")", x.person(p, what), facts[p][what]);
            }
            Check.due("no place yet", x.person(p, 3), -1);
            Check.due("not heard", x.person(p, 4), 0);
            Check.due("not dead", x.person(p, 5), 0);
            Check.due("stood", x.person(p, 6), 0);
            Check.due("days", x.person(p, 7), 0);
        }
        for (int other : new int[] {-1, 4, 6, Integer.MIN_VALUE, Integer.MAX_VALUE}) {
            Check.due("no person " + other, x.person(other, 1), -2);
        }
        for (int what : new int[] {-1, 8, Integer.MIN_VALUE, Integer.MAX_VALUE}) {
            Check.due("no what " + what, x.person(0, what), -2);
        }
        x.lamp(20);
        x.come(2);
        x.come(0);
        Check.due("place of 0", x.person(0, 3), 1);
        x.waits();
        x.come(1);
        x.waits();
        Check.due("stood 0", x.person(0, 6), 2);
        Check.due("stood 1", x.person(1, 6), 1);
        Check.due("days 0", x.person(0, 7), 0);
        x.leave(0);
        Check.due("gone: place", x.person(0, 3), -1);
        Check.due("gone: stood", x.person(0, 6), 0);
        x.ride();
        Check.due("heard", x.person(1, 4), 1);
        Check.due("heard: stood", x.person(1, 6), 0);
        Check.due("not heard", x.person(0, 4), 0);
    }

    private static void comingAndLeaving() {
        LeapCapital x = Check.told(FOUR);
        for (int other : new int[] {-1, 4, 5, 6, Integer.MIN_VALUE, Integer.MAX_VALUE}) {
            Check.due("come(" + other + ")", x.come(other), -1);
            Check.due("leave(" + other + ")", x.leave(other), false);
        }
        Check.due("come(3), not born", x.come(3), -1);
        Check.due("leave(0), not there", x.leave(0), false);
        Check.due("come(0)", x.come(0), 0);
        Check.due("come(1)", x.come(1), 1);
        Check.due("come(2)", x.come(2), 2);
        Check.due("come(0) twice", x.come(0), -1);
        Check.due("leave(0)", x.leave(0), true);
        Check.due("leave(0) twice", x.leave(0), false);
        Check.due("place of 2", x.person(2, 3), 1);
        Check.due("come(0) again", x.come(0), 2);
        x.waits();
        x.waits();
        Check.due("come(3) ahead of the year", x.come(3), -1);
        x.waits();
        Check.due("come(3) in the year", x.come(3), 3);
        x.leave(0);
        x.come(0);
        Check.due("stood anew", x.person(0, 6), 0);
        x.lamp(20);
        Check.due("ride", x.ride(), 15);
        Check.due("come(0), heard", x.come(0), -1);
        Check.due("leave(0), heard", x.leave(0), false);
    }

    private static void dying() {
        LeapCapital x = Check.told("person a plain born 1840 plea 20;person b heir born 1700 plea 20;"
                + "person c leap born 1839 plea 20;lives 60;year 1898;candle 1;");
        x.come(0);
        x.come(1);
        x.come(2);
        Check.due("dead", x.count(8), 0);
        x.waits();
        Check.due("dead in 1899", x.count(8), 4);
        Check.due("queue in 1899", x.count(6), 3);
        Check.due("places close up", x.person(1, 3), 1);
        Check.due("come(2), dead", x.come(2), -1);
        x.waits();
        Check.due("dead in 1900", x.count(8), 5);
        Check.due("queue in 1900", x.count(6), 2);
        Check.due("person(0, 5)", x.person(0, 5), 1);
        Check.due("person(1, 5)", x.person(1, 5), 0);
        Check.due("heir first now", x.person(1, 3), 0);
        // Who is DEAD in the year of a DAY is not called on it.
        LeapCapital y = Check.told("person a plain born 1844 plea 1;person b plain born 1845 plea 1;lives 60;year 1903;");
        y.come(0);
        y.come(1);
        Check.due("one is heard", y.waits(), 2);
        Check.due("one is dead", y.count(8), 1);
    }

    private static void lamps() {
        LeapCapital x = Check.told("person a plain born 1890 plea 20;candle 1;");
        for (int other : new int[] {0, -1, 21, Integer.MIN_VALUE, Integer.MAX_VALUE}) {
            Check.due("lamp(" + other + ")", x.lamp(other), -1);
        }
        Check.due("lamp(20)", x.lamp(20), 20);
        Check.due("lamp(20)", x.lamp(20), 40);
        Check.due("lamp(1)", x.lamp(1), 41);
        Check.due("lamp(18)", x.lamp(18), 59);
        Check.due("lamp(20), beyond 60", x.lamp(20), 60);
        Check.due("lamp(1), beyond 60", x.lamp(1), 60);
        for (int other : new int[] {0, -1, 21, Integer.MIN_VALUE, Integer.MAX_VALUE}) {
            Check.due("lamp(" + other + ") of 60", x.lamp(other), -1);
        }
        Check.due("count(4)", x.count(4), 60);
        Check.due("each of them is done", x.count(11), 6);
        Check.due("undo", x.undo(), true);
        Check.due("60 still", x.count(4), 60);
        Check.due("undo", x.undo(), true);
        Check.due("as it was, not 20 less", x.count(4), 59);
        Check.due("lamp(1)", x.lamp(1), 60);
        x.come(0);
        for (int i = 0; i < 7; i++) {
            Check.due("no DAY", x.waits(), 0);
            Check.due("lamps stay", x.count(4), 60);
        }
        Check.due("a DAY", x.waits(), 1);
        Check.due("lamps are gone", x.count(4), 0);
        x.lamp(3);
        x.ride();
        Check.due("gone without a queue, too", x.count(4), 0);
        // Of 59 and 20 more 60 are left, and the candle's one: 61 burn, not 60 and not 63.
        LeapCapital y = Check.told(SIXTY_THREE);
        for (int person = 0; person < 6; person++) {
            y.come(person);
        }
        y.lamp(20);
        y.lamp(20);
        y.lamp(19);
        y.lamp(20);
        Check.due("burnt", y.burnt(1), 61);
        Check.due("audience", y.audience(1), 15);
        Check.due("need of the last one", y.need(5), 3);
        Check.due("ride", y.ride(), 15);
    }

    private static void waiting() {
        LeapCapital x = Check.told("person a plain born 1890 plea 6;person b plain born 1890 plea 6;"
                + "person c plain born 1890 plea 4;person d plain born 1890 plea 1;year 1902;");
        for (int p = 0; p < 4; p++) {
            x.come(p);
        }
        Check.due("1903", x.waits(), 0);
        Check.due("year", x.count(1), 1903);
        // b's plea is too long for what is left: c is heard all the same, and d has nothing left.
        Check.due("1904", x.waits(), 5);
        Check.due("heard", x.count(7), 5);
        Check.due("queue", x.count(6), 10);
        Check.due("days of b", x.person(1, 7), 1);
        Check.due("stood of b", x.person(1, 6), 2);
        Check.due("1905", x.waits(), 0);
        x.waits();
        x.waits();
        Check.due("1908", x.waits(), 10);
        Check.due("all heard", x.count(7), 15);
        Check.due("1909", x.waits(), 0);
    }

    private static void theOrderOfHearing() {
        String people = "person a plain born 1880 plea 6;person b plain born 1870 plea 9;"
                + "person c leap born 1888 plea 2;person d leap born 1860 plea 7;person e heir born 1850 plea 6;";
        String[][] laws = {
            {"", "32014"}, {"first asks;", "32104"}, {"first 0-asks;", "23041"}, {"first age;", "32410"},
            {"first 100-age;", "23014"}, {"first asks=6;", "32041"}, {"first not(asks=6);", "32104"},
            {"first 20-asks*2;", "23041"}, {"first (20-asks)*2;", "23041"}, {"first 7<asks or age<10;", "23104"},
            {"first stood+days;", "32014"}, {"first asks<7 and age<20;", "23014"}, {"first 1 or 0 and 0;", "32014"},
            {"first 7<asks or 1 and asks<7;", "23041"}, {"first asks-6-1;", "32104"}, {"first 0-1+asks*0+not asks;", "32014"},
            {"first 9999*9999*99*asks;", "32041"}};
        for (String[] law : laws) {
            LeapCapital x = Check.told(people + law[0]);
            for (int p : new int[] {3, 0, 1, 2, 4}) {
                x.come(p);
            }
            Check.dueCalls(x, law[1]);
            Check.due("call(-1)", x.call(-1), -1);
            Check.due("call(5)", x.call(5), -1);
        }
        // Who stood longer is ahead without a law, whatever the numbers.
        LeapCapital y = Check.told(people + "year 1897;");
        y.come(4);
        y.waits();
        y.come(1);
        y.come(0);
        y.waits();
        y.come(2);
        Check.dueCalls(y, "2410");
        // A NUMBER is a number whatever the facts are.
        LeapCapital w = Check.told("person a plain born 1890 plea 15;person b plain born 1890 plea 19;first asks*(0=1);");
        w.come(0);
        w.come(1);
        w.ride();
        Check.due("days", w.person(0, 7), 1);
        Check.dueCalls(w, "01");
        // On a DAY, that DAY is not yet one of those since they came.
        LeapCapital z = Check.told(people + "year 1903;candle 9;first (days=1)*asks-(days<1)*asks;");
        z.come(4);
        z.come(1);
        Check.dueCalls(z, "41");
        Check.due("the sixth is heard", z.waits(), 16);
        Check.due("days behind it", z.person(1, 7), 1);
    }

    private static void lovers() {
        LeapCapital x = Check.told("person a lover born 1890 plea 7;person b lover born 1890 plea 9;"
                + "person c lover born 1890 plea 1;person d plain born 1890 plea 3;candle 15;year 1903;");
        for (int p : new int[] {3, 1, 0, 2}) {
            x.come(p);
        }
        // 3, 9, then 7 / 2 = 3 are heard; the last one asks for 1, and nothing is left.
        Check.due("lovers", x.waits(), 11);
        x.waits();
        x.waits();
        x.waits();
        Check.due("another DAY", x.waits(), 4);
        LeapCapital y = Check.told("person a lover born 1890 plea 16;person b lover born 1890 plea 8;"
                + "person c lover born 1890 plea 1;candle 15;year 1903;");
        for (int p = 0; p < 3; p++) {
            y.come(p);
        }
        // Nobody is heard ahead of b: the first one's plea is too long, b's is whole.
        Check.due("burnt", y.burnt(1), 9);
        Check.due("one of 1 stays 1", y.waits(), 6);
        Check.due("alone, never heard", y.when(0), -1);
    }

    private static void riding() {
        LeapCapital x = Check.told("person a plain born 1890 plea 10;person b plain born 1895 plea 10;");
        x.come(0);
        x.come(1);
        Check.due("1904", x.ride(), 1);
        Check.due("year", x.count(1), 1904);
        Check.due("1908", x.ride(), 2);
        Check.due("year", x.count(1), 1908);
        x.waits();
        Check.due("1912", x.ride(), 0);
        Check.due("year", x.count(1), 1912);
        LeapCapital y = Check.told("person a plain born 1890 plea 1;year 1999;lives 120;");
        y.come(0);
        Check.due("2000", y.ride(), 1);
        Check.due("year", y.count(1), 2000);
        // DEAD on the way to the DAY.
        LeapCapital z = Check.told("person a plain born 1890 plea 1;year 1897;lives 9;");
        z.come(0);
        Check.due("nobody", z.ride(), 0);
        Check.due("queue", z.count(5), 0);
    }

    private static void undoing() {
        LeapCapital x = Check.told(FOUR);
        x.come(9);
        x.leave(0);
        x.lamp(21);
        Check.due("nothing was done", x.count(11), 0);
        x.come(0);
        x.come(2);
        x.lamp(3);
        x.waits();
        x.leave(0);
        x.ride();
        Check.due("done", x.count(11), 6);
        Check.due("undo the ride", x.undo(), true);
        Check.due("year", x.count(1), 1897);
        Check.due("lamps", x.count(4), 3);
        Check.due("queue", x.count(6), 4);
        Check.due("heard", x.count(7), 0);
        Check.due("undo the leaving", x.undo(), true);
        Check.due("queue", x.count(6), 5);
        Check.due("place", x.person(0, 3), 0);
        Check.due("stood", x.person(0, 6), 1);
        Check.due("undo the year", x.undo(), true);
        Check.due("year", x.count(1), 1896);
        Check.due("undo the lamp", x.undo(), true);
        Check.due("lamps", x.count(4), 0);
        Check.due("undo coming", x.undo(), true);
        Check.due("queue", x.count(6), 1);
        Check.due("undo coming", x.undo(), true);
        Check.due("no more", x.undo(), false);
        for (int i = 0; i < 20; i++) {
            x.waits();
            Check.due("undoable", x.count(11), Math.min(16, i + 1));
        }
        for (int i = 0; i < 16; i++) {
            Check.due("undo " + i, x.undo(), true);
            Check.due("year", x.count(1), 1915 - i);
        }
        Check.due("no seventeenth", x.undo(), false);
        Check.due("year", x.count(1), 1900);
        // What is said, and the reign, are not undone.
        Check.reign(x, "wait;");
        x.say(1, true);
        x.waits();
        x.undo();
        Check.due("lines", x.count(9), 1);
        Check.due("said", x.count(10), 1);
        // What was heard of undone years may be heard again, days counted anew.
        LeapCapital y = Check.told("person a plain born 1890 plea 20;");
        y.come(0);
        y.ride();
        Check.due("days", y.person(0, 7), 1);
        y.undo();
        Check.due("days", y.person(0, 7), 0);
    }

    private static void judging() {
        LeapCapital x = Check.told(FOUR);
        Check.due("judged(-1)", x.judged(-1), -2);
        Check.due("judged(3)", x.judged(3), -2);
        Check.due("no reign", x.judged(0), -1);
        Check.due("no reign", x.judged(1), -1);
        Check.due("no reign", x.judged(2), 0);
        dueJudged(x, "wait;ride;", -1, -1, 0);
        dueJudged(x, "come ann;come ann;", 1, -1, 0);
        dueJudged(x, "leave ann;come ann;ride;", 0, 2, 1);
        dueJudged(x, "come dee;wait;wait;wait;come dee;come cy;come bo;ride;ride;", 0, 7, 3);
        dueJudged(x, "come ann;come cy;come bo;lamp 20;ride;come ann;", 5, 4, 3);
        dueJudged(x, "lamp 20;lamp 20;lamp 20;lamp 1;lamp 20;", -1, -1, 0);
        dueJudged(x, "lamp 20;lamp 20;lamp 20;lamp 1;leave ann;", 4, -1, 0);
        dueJudged(x, "lamp 20;lamp 20;lamp 20;ride;lamp 1;", -1, -1, 0);
        LeapCapital y = Check.told(SIXTY_THREE);
        String all = "come a;come b;come c;come d;come e;come f;";
        dueJudged(y, all + "lamp 20;lamp 20;lamp 19;ride;", -1, 9, 3);
        dueJudged(y, all + "lamp 20;lamp 20;lamp 19;lamp 20;ride;", -1, 10, 4);
        dueJudged(y, all + "lamp 20;lamp 20;lamp 20;lamp 20;ride;", -1, 10, 4);
        // From the beginning, not from now on; and all is as ahead then.
        Check.reign(x, "come ann;ride;");
        x.come(0);
        x.ride();
        x.lamp(4);
        Check.due("judged", x.judged(0), -1);
        Check.due("judged", x.judged(1), 1);
        Check.due("year", x.count(1), 1904);
        Check.due("heard", x.count(7), 1);
        Check.due("lamps", x.count(4), 4);
        Check.due("undoable", x.count(11), 3);
    }

    private static void dueJudged(LeapCapital x, String reign, int leftOut, int heard, int many) {
        Check.due("reign of " + reign, Check.reign(x, reign), 0);
        Check.due("judged(0) of " + reign, x.judged(0), leftOut);
        Check.due("judged(1) of " + reign, x.judged(1), heard);
        Check.due("judged(2) of " + reign, x.judged(2), many);
    }
}
