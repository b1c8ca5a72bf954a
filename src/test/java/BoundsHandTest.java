/** The bounds of number 2 of the terms: DEAD, COME, LEAVE, LAMP, WAIT, DAY, RIDE, UNDO, JUDGED; promises 5 to 12. */
public final class BoundsHandTest {
    private static final String FOUR = "person a plain born 1850 plea 6;person b leap born 1884 plea 5;"
            + "person c heir born 1700 plea 4;person d lover born 1899 plea 8;lives 60;candle 12;";

    public static void main(String[] args) {
        personsAsked();
        whatIsAskedOfAPerson();
        sinceHeCame();
        dead();
        heirs();
        mayCome();
        sixInTheQueue();
        leaving();
        lamps();
        sixtyOfLamps();
        lampsOfOneDay();
        waitingForTheDead();
        isItADay();
        pleaAndCandle();
        nobodyIsHeardTwice();
        lovers();
        ordersOfEqualOnes();
        rides();
        undoSixteen();
        whatIsNotUndone();
        judgedAsked();
        judgedLines();
        Check.end();
    }

    private static LeapCapital queue(String realm, int... people) {
        LeapCapital x = Check.told(realm);
        for (int p : people) {
            Check.due("he can come", x.come(p) >= 0, true);
        }
        return x;
    }

    private static void personsAsked() {
        Check.says("Of a PERSON ..; -2: others");
        LeapCapital x = Check.told(FOUR);
        for (int what = 0; what < 8; what++) {
            Check.due("person(0, " + what + ")", x.person(0, what) != -2, true);
            Check.due("person(3, " + what + ")", x.person(3, what) != -2, true);
            for (int other : new int[] {-1, -2, 4, 5, 6, 7, 32}) {
                Check.due("person(" + other + ", " + what + ")", x.person(other, what), -2);
            }
            for (int other : Check.FAR) {
                Check.due("person(" + other + ", " + what + ")", x.person(other, what), -2);
            }
        }
        LeapCapital six = Check.told("person a plain born 1 plea 1;person b plain born 1 plea 1;person c plain born 1 plea 1;"
                + "person d plain born 1 plea 1;person e plain born 1 plea 1;person f plain born 9 plea 1;");
        Check.due("the sixth", six.person(5, 1), 9);
        Check.due("no seventh", six.person(6, 1), -2);
    }

    private static void whatIsAskedOfAPerson() {
        Check.says("what 0: KIND .. 7: DAYS since; -2: others");
        LeapCapital x = Check.told(FOUR);
        int[] want = {1, 1884, 5, -1, 0, 0, 0, 0};
        for (int what = 0; what < 8; what++) {
            Check.due("person(1, " + what + ")", x.person(1, what), want[what]);
        }
        for (int other : new int[] {-1, -2, 8, 9, 32}) {
            Check.due("person(1, " + other + ")", x.person(1, other), -2);
        }
        for (int other : Check.FAR) {
            Check.due("person(1, " + other + ")", x.person(1, other), -2);
        }
    }

    private static void sinceHeCame() {
        Check.says("3: his place in the QUEUE as they came (from 0; NONE: none); 6: years since he came, 7: DAYS since (0: not in the QUEUE)");
        LeapCapital x = queue("person a heir born 1 plea 20;person b heir born 1 plea 9;year 1896;candle 9;", 0, 1);
        // The year in which one comes has a DAY of its own; it is not one of those since.
        dueSince(x, 0, 0, 0, 0);
        x.waits();
        dueSince(x, 0, 0, 1, 0);
        x.ride();
        dueSince(x, 0, 0, 8, 1);
        dueSince(x, 1, -1, 0, 0);
        Check.due("HEARD", x.person(1, 4), 1);
        x.ride();
        dueSince(x, 0, 0, 12, 2);
        x.leave(0);
        dueSince(x, 0, -1, 0, 0);
        x.come(0);
        dueSince(x, 0, 0, 0, 0);
        x.ride();
        dueSince(x, 0, 0, 4, 1);
        LeapCapital y = queue("person a plain born 1890 plea 20;year 1896;candle 9;lives 13;", 0);
        for (int i = 0; i < 6; i++) {
            y.waits();
        }
        dueSince(y, 0, 0, 6, 0);
        y.waits();
        Check.due("DEAD", y.person(0, 5), 1);
        dueSince(y, 0, -1, 0, 0);
    }

    private static void dueSince(LeapCapital x, int person, int place, int years, int days) {
        Check.due("place", x.person(person, 3), place);
        Check.due("years since", x.person(person, 6), years);
        Check.due("DAYS since", x.person(person, 7), days);
    }

    private static void dead() {
        Check.says("A PERSON is DEAD if the year is as many as one lives, or more, behind that in which they were born");
        for (int lives : new int[] {1, 2, 60, 120}) {
            for (String kind : new String[] {"plain", "leap", "lover"}) {
                String person = "person a " + kind + " born 1000 plea 1;lives " + lives + ";year ";
                int[][] rows = {{999, 0}, {1000, 0}, {1000 + lives - 1, 0}, {1000 + lives, 1}, {1000 + lives + 1, 1}, {3000, 1}};
                for (int[] row : rows) {
                    LeapCapital x = Check.told(person + row[0] + ";");
                    Check.due(kind + " in " + row[0] + ", lives " + lives, x.person(0, 5), row[1]);
                    Check.due("as bits", x.count(8), row[1]);
                }
            }
        }
        LeapCapital x = Check.told("person a plain born 1 plea 1;lives 120;year 120;");
        Check.due("the last year", x.count(8), 0);
        x.waits();
        Check.due("the year behind", x.count(8), 1);
        x.undo();
        Check.due("undone", x.count(8), 0);
    }

    private static void heirs() {
        Check.says("not an heir (there is always another one in that hat)");
        for (int year : new int[] {1, 2, 3000}) {
            LeapCapital x = Check.told("person a heir born 1 plea 1;lives 1;year " + year + ";");
            Check.due("heir in " + year, x.person(0, 5), 0);
            Check.due("as bits", x.count(8), 0);
            Check.due("he comes", x.come(0), 0);
        }
    }

    private static void mayCome() {
        Check.says("COME: one who is not in the QUEUE, nor HEARD, nor DEAD, nor born in a later year; NONE: others, it can't be");
        LeapCapital x = Check.told("person a plain born 1896 plea 1;person b plain born 1897 plea 1;person c plain born 1837 plea 1;"
                + "person d plain born 1836 plea 1;person e heir born 1897 plea 1;lives 60;year 1896;");
        Check.due("born this year", x.come(0), 0);
        Check.due("born in the next year", x.come(1), -1);
        Check.due("an heir born in the next year", x.come(4), -1);
        Check.due("in his last year", x.come(2), 1);
        Check.due("DEAD since this year", x.come(3), -1);
        Check.due("in the QUEUE", x.come(0), -1);
        for (int other : new int[] {-1, -2, 5, 6, 31, 32}) {
            Check.due("come(" + other + ")", x.come(other), -1);
        }
        for (int other : Check.FAR) {
            Check.due("come(" + other + ")", x.come(other), -1);
        }
        Check.dueCounts("what can't be is not done", x, 5, 1896, 10, 60, 0, 2, 5, 0, 8, 0, 0, 2, 0);
        x.waits();
        Check.due("born this year now", x.come(1), 1);
        Check.due("DEAD now", x.come(2), -1);
        x.ride();
        Check.due("HEARD", x.count(7), 3);
        Check.due("HEARD", x.come(0), -1);
    }

    private static void sixInTheQueue() {
        Check.says("COME: his place (comes to its end)");
        LeapCapital x = Check.told("person a plain born 1890 plea 20;person b plain born 1890 plea 20;person c plain born 1890 plea 20;"
                + "person d plain born 1890 plea 20;person e plain born 1890 plea 20;person f plain born 1890 plea 20;candle 1;");
        for (int i = 0; i < 6; i++) {
            Check.due("place", x.come(5 - i), i);
            Check.due("in the QUEUE", x.count(5), i + 1);
        }
        Check.due("all of them", x.count(6), 63);
        Check.due("nobody else", x.come(6), -1);
        Check.due("the first one leaves", x.leave(5), true);
        Check.due("the last one's place", x.person(0, 3), 4);
        Check.due("he comes to the end", x.come(5), 5);
    }

    private static void leaving() {
        Check.says("LEAVE: one in the QUEUE is no more (and may COME again); false: others, not in the QUEUE");
        LeapCapital x = queue(FOUR, 0, 2);
        Check.due("not in the QUEUE", x.leave(1), false);
        for (int other : new int[] {-1, -2, 3, 4, 5, 6, 31, 32}) {
            Check.due("leave(" + other + ")", x.leave(other), false);
        }
        for (int other : Check.FAR) {
            Check.due("leave(" + other + ")", x.leave(other), false);
        }
        Check.due("nothing was done", x.count(11), 2);
        Check.due("leave(0)", x.leave(0), true);
        Check.due("no more", x.leave(0), false);
        Check.due("done", x.count(11), 3);
        Check.due("again", x.come(0), 1);
        Check.due("leave(2)", x.leave(2), true);
        Check.due("leave(0)", x.leave(0), true);
        Check.due("nobody is there", x.count(5), 0);
        x.come(2);
        x.ride();
        Check.due("HEARD", x.leave(2), false);
    }

    private static void lamps() {
        Check.says("LAMP (1 to 20): lamps then, together; NONE: others");
        LeapCapital x = new LeapCapital();
        for (int other : new int[] {0, -1, 21, 22, 60, 256}) {
            Check.due("lamp(" + other + ")", x.lamp(other), -1);
        }
        for (int other : Check.FAR) {
            Check.due("lamp(" + other + ")", x.lamp(other), -1);
        }
        Check.due("nothing was done", x.count(11), 0);
        Check.due("no lamp", x.count(4), 0);
        Check.due("lamp(1)", x.lamp(1), 1);
        Check.due("lamp(20)", x.lamp(20), 21);
        Check.due("lamp(19)", x.lamp(19), 40);
        Check.due("lamp(2)", x.lamp(2), 42);
        Check.due("count(4)", x.count(4), 42);
    }

    private static void sixtyOfLamps() {
        Check.says("LAMP: so much more of a candle for the next DAY (60 of lamps at most)");
        int[][] rows = {{19, 59}, {20, 60}};
        for (int[] row : rows) {
            LeapCapital x = new LeapCapital();
            x.lamp(20);
            x.lamp(20);
            Check.due("lamp(" + row[0] + ")", x.lamp(row[0]), row[1]);
            Check.due("lamp(1)", x.lamp(1), 60);
            Check.due("lamp(1)", x.lamp(1), 60);
            Check.due("lamp(20)", x.lamp(20), 60);
            Check.due("lamp(21)", x.lamp(21), -1);
            Check.due("lamp(0)", x.lamp(0), -1);
            Check.due("count(4)", x.count(4), 60);
            Check.due("each one is done", x.count(11), 6);
        }
        LeapCapital y = new LeapCapital();
        y.lamp(20);
        y.lamp(20);
        y.lamp(1);
        Check.due("41 and 20", y.lamp(20), 60);
        Check.due("undone", y.undo(), true);
        Check.due("41 again", y.count(4), 41);
    }

    private static void lampsOfOneDay() {
        Check.says("There is no lamp then");
        LeapCapital x = Check.told("year 1899;");
        x.lamp(5);
        x.waits();
        Check.due("1900 has none: they stay", x.count(4), 5);
        x.waits();
        x.waits();
        x.waits();
        Check.due("1903", x.count(4), 5);
        x.waits();
        Check.due("1904", x.count(4), 0);
        x.lamp(5);
        Check.due("anew", x.lamp(1), 6);
        x.ride();
        Check.due("1908", x.count(4), 0);
    }

    private static void waitingForTheDead() {
        Check.says("WAIT: the next year: whoever is DEAD is in the QUEUE no more; then, if it is a LEAP year, it is a DAY");
        LeapCapital x = queue("person a plain born 1844 plea 10;person b plain born 1845 plea 10;lives 60;year 1903;", 0, 1);
        Check.due("the first one is DEAD ahead of the DAY", x.waits(), 2);
        Check.due("he was not called", x.count(5), 0);
        LeapCapital y = queue("person a plain born 1845 plea 10;person b plain born 1846 plea 10;lives 60;year 1903;", 0, 1);
        Check.due("in his last year", y.waits(), 1);
        LeapCapital z = queue("person a plain born 1840 plea 10;person b heir born 1840 plea 10;lives 60;year 1898;", 0, 1);
        z.waits();
        Check.due("1899", z.count(6), 3);
        z.waits();
        Check.due("1900, no LEAP year", z.count(6), 2);
        Check.due("the other one is the first now", z.person(1, 3), 0);
        Check.due("year", z.count(1), 1900);
    }

    private static void isItADay() {
        Check.says("A year is a LEAP year if 4 divides it, but not if 100 does, but for those that 400 divides");
        int[][] rows = {{2, 0}, {3, 1}, {4, 0}, {99, 0}, {395, 1}, {399, 1}, {400, 0}, {1895, 1}, {1899, 0}, {1903, 1}, {1999, 1},
            {2099, 0}, {2999, 0}, {3000, 0}};
        for (int[] row : rows) {
            LeapCapital x = queue("person a heir born 1 plea 1;year " + row[0] + ";", 0);
            Check.due("from " + row[0], x.waits(), row[1]);
            Check.due("year", x.count(1), row[0] + 1);
        }
        LeapCapital y = new LeapCapital();
        for (int i = 1; i <= 9; i++) {
            Check.due("nobody", y.waits(), 0);
            Check.due("year", y.count(1), 1896 + i);
        }
    }

    private static void pleaAndCandle() {
        Check.says("Who is called is HEARD if the plea is no longer than what is left of the candle (with the lamps)");
        int[][] rows = {{20, 20, 0, 1}, {20, 19, 0, 0}, {20, 19, 1, 1}, {20, 1, 18, 0}, {20, 1, 19, 1}, {1, 1, 0, 1}, {20, 40, 0, 1}};
        for (int[] row : rows) {
            LeapCapital x = queue("person a plain born 1890 plea " + row[0] + ";candle " + row[1] + ";", 0);
            if (row[2] > 0) {
                x.lamp(row[2]);
            }
            Check.due("plea " + row[0] + ", candle " + row[1] + ", lamps " + row[2], x.ride(), row[3]);
        }
        // What is left goes down to 0; nobody's plea is 0.
        LeapCapital x = queue("person a plain born 1890 plea 4;person b plain born 1890 plea 6;person c plain born 1890 plea 1;", 0, 1, 2);
        Check.due("nothing is left", x.ride(), 3);
        LeapCapital y = queue("person a plain born 1890 plea 4;person b plain born 1890 plea 7;person c plain born 1890 plea 6;", 0, 1, 2);
        Check.due("one more than is left", y.ride(), 5);
        Check.due("alone, on the next one", y.ride(), 2);
    }

    private static void nobodyIsHeardTwice() {
        Check.says("Who is HEARD is in the QUEUE no more");
        LeapCapital x = queue("person a plain born 1890 plea 4;", 0);
        Check.due("HEARD", x.ride(), 1);
        Check.due("QUEUE", x.count(6), 0);
        Check.due("again", x.come(0), -1);
        Check.due("nobody", x.ride(), 0);
        Check.due("HEARD still", x.count(7), 1);
        LeapCapital y = new LeapCapital();
        Check.due("an empty QUEUE", y.ride(), 0);
        Check.due("no people at all", y.count(7), 0);
    }

    private static void lovers() {
        Check.says("A lover's plea is half as long, cut, 1 at least, if another lover was HEARD on that DAY already");
        int[][] rows = {{1, 1}, {2, 1}, {3, 1}, {4, 2}, {5, 2}, {19, 9}, {20, 10}};
        for (int[] row : rows) {
            String two = "person a lover born 1890 plea 1;person b lover born 1890 plea " + row[0] + ";candle ";
            LeapCapital x = queue(two + (1 + row[1]) + ";", 0, 1);
            Check.due("a half of " + row[0], x.burnt(1), 1 + row[1]);
            Check.due("HEARD", x.ride(), 3);
            LeapCapital y = queue(two + row[1] + ";", 0, 1);
            Check.due("one less", y.ride(), 1);
        }
        LeapCapital first = queue("person a lover born 1890 plea 11;person b lover born 1890 plea 20;candle 10;", 0, 1);
        Check.due("the first one is not HEARD: b's is whole", first.ride(), 0);
        LeapCapital plain = queue("person a plain born 1890 plea 1;person b lover born 1890 plea 10;", 0, 1);
        Check.due("another kind", plain.ride(), 1);
        LeapCapital other = queue("person a lover born 1890 plea 1;person b plain born 1890 plea 10;", 0, 1);
        Check.due("his own is not halved", other.ride(), 1);
        LeapCapital past = queue("person a lover born 1890 plea 1;person b lover born 1890 plea 20;candle 10;", 0);
        Check.due("the first one's DAY", past.ride(), 1);
        past.come(1);
        Check.due("not on that DAY", past.ride(), 0);
        LeapCapital three = queue("person a lover born 1890 plea 20;person b lover born 1890 plea 9;person c lover born 1890 plea 9;"
                + "candle 28;", 0, 1, 2);
        Check.due("halves, not quarters", three.burnt(1), 28);
        Check.due("all", three.ride(), 7);
    }

    private static void ordersOfEqualOnes() {
        Check.says("of equal ones who came first");
        LeapCapital x = queue("person a plain born 1890 plea 6;person b plain born 1890 plea 6;person c leap born 1890 plea 6;"
                + "person d leap born 1890 plea 6;first 0;", 1, 3, 0, 2);
        Check.dueCalls(x, "3210");
        Check.due("the first one", x.ride(), 8);
        Check.due("the next one", x.ride(), 4);
        Check.due("the next one", x.ride(), 2);
        Check.due("the last one", x.ride(), 1);
    }

    private static void rides() {
        Check.says("RIDE: WAITS till it is a LEAP year");
        int[][] rows = {{1, 4}, {3, 4}, {4, 8}, {95, 96}, {96, 104}, {97, 104}, {103, 104}, {396, 400}, {400, 404}, {1896, 1904},
            {1996, 2000}, {2996, 3004}, {3000, 3004}};
        for (int[] row : rows) {
            LeapCapital x = queue("person a heir born 1 plea 1;year " + row[0] + ";", 0);
            Check.due("from " + row[0], x.ride(), 1);
            Check.due("year", x.count(1), row[1]);
            Check.due("a RIDE is one", x.count(11), 2);
            Check.due("undone", x.undo(), true);
            Check.due("year", x.count(1), row[0]);
        }
        LeapCapital y = queue("person a plain born 1897 plea 1;year 1897;lives 7;", 0);
        Check.due("DEAD on the way", y.ride(), 0);
        LeapCapital z = queue("person a plain born 1897 plea 1;year 1897;lives 8;", 0);
        Check.due("in his last year", z.ride(), 1);
    }

    private static void undoSixteen() {
        Check.says("UNDO: all of these, the last 16, one by one (a RIDE is one); false: nothing can be");
        LeapCapital none = new LeapCapital();
        Check.due("nothing", none.undo(), false);
        none.lamp(1);
        Check.due("one", none.undo(), true);
        Check.due("no more", none.undo(), false);
        for (int done : new int[] {15, 16, 17, 40}) {
            LeapCapital x = new LeapCapital();
            for (int i = 0; i < done; i++) {
                x.waits();
            }
            int can = Math.min(16, done);
            Check.due("what can be undone of " + done, x.count(11), can);
            for (int i = 0; i < can; i++) {
                Check.due("undo()", x.undo(), true);
                Check.due("year", x.count(1), 1896 + done - 1 - i);
                Check.due("left", x.count(11), can - 1 - i);
            }
            Check.due("no more", x.undo(), false);
            Check.due("year", x.count(1), 1896 + done - can);
        }
        LeapCapital all = Check.told(FOUR);
        all.come(0);
        all.leave(0);
        all.lamp(7);
        all.waits();
        all.ride();
        Check.due("each sort", all.count(11), 5);
        int[][] behind = {{1897, 7, 0}, {1896, 7, 0}, {1896, 0, 0}, {1896, 0, 1}, {1896, 0, 0}};
        for (int[] row : behind) {
            Check.due("undo()", all.undo(), true);
            Check.due("year", all.count(1), row[0]);
            Check.due("lamps", all.count(4), row[1]);
            Check.due("QUEUE", all.count(6), row[2]);
        }
        Check.due("no more", all.undo(), false);
        // What is undone makes room for as many again.
        LeapCapital y = new LeapCapital();
        for (int i = 0; i < 20; i++) {
            y.waits();
        }
        y.undo();
        y.lamp(1);
        y.lamp(1);
        Check.due("16 again", y.count(11), 16);
        for (int i = 0; i < 16; i++) {
            Check.due("undo()", y.undo(), true);
        }
        Check.due("no more", y.undo(), false);
        Check.due("year", y.count(1), 1901);
    }

    private static void whatIsNotUndone() {
        Check.says("UNDO: all of these (COME, LEAVE, LAMP, WAIT, RIDE)");
        LeapCapital x = queue(FOUR, 0);
        x.come(0);
        x.leave(1);
        x.lamp(21);
        x.say(3, true);
        Check.reign(x, "wait;");
        x.mark(0, false);
        x.judged(2);
        x.call(0);
        x.when(0);
        x.coming(4, -1);
        x.ages(1, 99, 0);
        x.need(0);
        x.chance(0, 5);
        x.exchange(0, 1);
        x.stale();
        x.julian(99);
        Check.due("one was done", x.count(11), 1);
        Check.due("undo()", x.undo(), true);
        Check.due("QUEUE", x.count(6), 0);
        Check.due("SAID stays", x.count(10), 1);
        Check.due("the REIGN stays", x.count(9), 1);
        Check.due("no more", x.undo(), false);
    }

    private static void judgedAsked() {
        Check.says("JUDGED, what 0, 1: lines (NONE: none), 2: how many; -2: others");
        LeapCapital x = Check.told(FOUR);
        for (int other : new int[] {-1, -2, 3, 4}) {
            Check.due("judged(" + other + ")", x.judged(other), -2);
        }
        for (int other : Check.FAR) {
            Check.due("judged(" + other + ")", x.judged(other), -2);
        }
        dueJudged(x, "", -1, -1, 0);
        dueJudged(x, "wait;", -1, -1, 0);
    }

    private static void judgedLines() {
        Check.says("JUDGED: the first line (from 0) that can't be; the first one behind which somebody is HEARD; how many are at last");
        LeapCapital x = Check.told(FOUR);
        dueJudged(x, "leave a;", 0, -1, 0);
        dueJudged(x, "come a;leave a;leave a;leave a;", 2, -1, 0);
        dueJudged(x, "come a;come a;", 1, -1, 0);
        dueJudged(x, "come d;", 0, -1, 0);
        dueJudged(x, "wait;wait;come d;wait;come d;", 2, -1, 0);
        dueJudged(x, "come a;ride;come a;", 2, 1, 1);
        dueJudged(x, "come a;ride;leave a;", 2, 1, 1);
        dueJudged(x, "come a;" + Check.times("wait;", 7), -1, -1, 0);
        dueJudged(x, "come a;" + Check.times("wait;", 8), -1, 8, 1);
        dueJudged(x, "come a;come b;come c;ride;", -1, 3, 2);
        dueJudged(x, "come a;come b;come c;ride;ride;", -1, 3, 3);
        dueJudged(x, "come a;come b;come c;lamp 2;ride;", -1, 4, 2);
        dueJudged(x, "come a;come b;come c;lamp 3;ride;", -1, 4, 3);
        dueJudged(x, Check.times("lamp 20;", 39) + "lamp 20;", -1, -1, 0);
        Check.says("40 lines (from 0)");
        dueJudged(x, Check.times("ride;", 39) + "come b;", 39, -1, 0);
        dueJudged(x, "come c;" + Check.times("lamp 1;", 38) + "ride;", -1, 39, 1);
        Check.says("(a line that can't be is left out)");
        dueJudged(x, "leave c;come c;come c;leave a;ride;", 0, 4, 1);
        Check.says("JUDGED: the REIGN from the beginning");
        x.come(0);
        x.lamp(20);
        x.ride();
        dueJudged(x, "come a;leave b;ride;", 1, 2, 1);
        Check.dueCounts("all is as ahead", x, 4, 1904, 12, 60, 0, 0, 0, 1, 0, 3, 0, 3, 0);
    }

    private static void dueJudged(LeapCapital x, String reign, int leftOut, int heard, int many) {
        Check.readsReign(x, reign);
        Check.due("judged(0) of " + reign, x.judged(0), leftOut);
        Check.due("judged(1) of " + reign, x.judged(1), heard);
        Check.due("judged(2) of " + reign, x.judged(2), many);
    }
}
