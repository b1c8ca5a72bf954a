/** The bounds of number 3 of the terms, of what would be: promises 18 to 23, 26, 27, 29, 30 and 34. */
public final class BoundsForeseeTest {
    private static final int[] NOBODY = {-1, -2, 6, 7, 31, 32, 33};

    public static void main(String[] args) {
        calls();
        whens();
        whensOfOthers();
        whichDays();
        twelveDays();
        burnts();
        exchanges();
        needs();
        needsOfOthers();
        comings();
        whoComes();
        comingByDays();
        rowsOfComing();
        julians();
        stales();
        chances();
        chancesOfOthers();
        askingChangesNothing();
        Check.end();
    }

    /** Six plain ones with this plea. */
    private static String six(int plea) {
        StringBuilder text = new StringBuilder();
        for (char name = 'a'; name < 'g'; name++) {
            text.append("person ").append(name).append(" plain born 1890 plea ").append(plea).append(';');
        }
        return text.toString();
    }

    private static LeapCapital queue(String realm, int... people) {
        LeapCapital x = Check.told(realm);
        for (int p : people) {
            Check.due("he can come", x.come(p) >= 0, true);
        }
        return x;
    }

    private static void calls() {
        Check.says("CALL: the i-th PERSON; NONE: none");
        int[][] queues = {{}, {3}, {3, 1}, {5, 4, 3, 2, 1, 0}};
        for (int[] people : queues) {
            LeapCapital x = queue(six(1), people);
            for (int i = 0; i < people.length; i++) {
                Check.due("call(" + i + ")", x.call(i), people[i]);
            }
            for (int other : new int[] {-1, -2, people.length, people.length + 1, 6, 7}) {
                Check.due("call(" + other + ") of " + people.length, x.call(other), -1);
            }
            for (int other : Check.FAR) {
                Check.due("call(" + other + ")", x.call(other), -1);
            }
        }
        Check.says("were it a DAY of this year now");
        // It is this year's age, not that of the next DAY's year.
        LeapCapital y = queue("person a plain born 1887 plea 1;person b plain born 1888 plea 1;year 1897;first age=9;", 0, 1);
        Check.dueCalls(y, "10");
        y.waits();
        Check.dueCalls(y, "01");
    }

    private static void whens() {
        Check.says("WHEN: in how many years (1 to 99) one in the QUEUE is HEARD; NONE: .. not by 99");
        LeapCapital x = queue(six(10) + "year 1895;", 0, 1, 2, 3, 4, 5);
        int[] years = {1, 9, 13, 17, 21, 25};
        for (int p = 0; p < 6; p++) {
            Check.due("when(" + p + ") from 1895", x.when(p), years[p]);
        }
        // As long as can be: six DAYS, and the gate of eight years among them.
        LeapCapital y = queue(six(10) + "year 1896;", 0, 1, 2, 3, 4, 5);
        Check.due("the last of six", y.when(5), 28);
        LeapCapital never = queue("person a heir born 1 plea 11;person b heir born 1 plea 10;", 0, 1);
        Check.due("never", never.when(0), -1);
        Check.due("the other one", never.when(1), 8);
        LeapCapital dead = queue("person a plain born 1890 plea 1;lives 14;", 0);
        Check.due("DEAD in the year of the DAY", dead.when(0), -1);
        LeapCapital last = queue("person a plain born 1890 plea 1;lives 15;", 0);
        Check.due("in his last year", last.when(0), 8);
    }

    private static void whensOfOthers() {
        Check.says("WHEN; NONE: others, not in the QUEUE");
        LeapCapital x = queue(six(1), 0, 5);
        Check.due("when(0)", x.when(0), 8);
        Check.due("when(5)", x.when(5), 8);
        Check.due("not come", x.when(1), -1);
        for (int other : NOBODY) {
            Check.due("when(" + other + ")", x.when(other), -1);
        }
        for (int other : Check.FAR) {
            Check.due("when(" + other + ")", x.when(other), -1);
        }
        x.leave(0);
        Check.due("he left", x.when(0), -1);
        x.ride();
        Check.due("HEARD", x.when(5), -1);
    }

    private static void whichDays() {
        Check.says("the i-th DAY (1 to 12) from now on; NONE: others");
        LeapCapital x = queue(six(10) + "year 1896;", 0, 1, 2, 3, 4, 5);
        for (int i = 1; i <= 12; i++) {
            Check.due("audience(" + i + ")", x.audience(i), i <= 6 ? 1 << i - 1 : 0);
            Check.due("burnt(" + i + ")", x.burnt(i), i <= 6 ? 10 : 0);
            Check.due("crowd(" + i + ")", x.crowd(i), i <= 6 ? 7 - i : 0);
        }
        for (int other : new int[] {0, -1, -2, 13, 14}) {
            dueNoDay(x, other);
        }
        for (int other : Check.FAR) {
            dueNoDay(x, other);
        }
        LeapCapital nobody = new LeapCapital();
        Check.due("nobody is there", nobody.audience(12), 0);
        Check.due("nobody is there", nobody.burnt(12), 0);
        Check.due("nobody is there", nobody.crowd(12), 0);
        dueNoDay(nobody, 0);
        dueNoDay(nobody, 13);
    }

    private static void dueNoDay(LeapCapital x, int other) {
        Check.due("audience(" + other + ")", x.audience(other), -1);
        Check.due("burnt(" + other + ")", x.burnt(other), -1);
        Check.due("crowd(" + other + ")", x.crowd(other), -1);
    }

    private static void twelveDays() {
        Check.says("CROWD: how many are called on it (who is DEAD is in the QUEUE no more)");
        // The eleventh DAY from 1896 on is that of 1944, the twelfth that of 1948.
        LeapCapital x = queue("person a heir born 1 plea 20;person b plain born 1874 plea 20;person c plain born 1875 plea 20;"
                + "person d plain born 1878 plea 20;person e plain born 1879 plea 20;lives 70;candle 1;", 0, 1, 2, 3, 4);
        Check.due("crowd(10)", x.crowd(10), 5);
        Check.due("crowd(11)", x.crowd(11), 4);
        Check.due("crowd(12)", x.crowd(12), 2);
        Check.due("nobody is HEARD", x.audience(12), 0);
        Check.due("nothing burns", x.burnt(12), 0);
    }

    private static void burnts() {
        Check.says("BURNT: how much of the candle, with the lamps, burns on the i-th DAY");
        LeapCapital x = queue(six(20) + "candle 40;", 0, 1, 2, 3, 4, 5);
        Check.due("a candle of 40", x.burnt(1), 40);
        x.lamp(19);
        Check.due("59", x.burnt(1), 40);
        x.lamp(1);
        Check.due("60", x.burnt(1), 60);
        x.lamp(20);
        x.lamp(20);
        Check.due("40 and 60 of lamps", x.burnt(1), 100);
        Check.due("who is HEARD", x.audience(1), 31);
        Check.due("how many are called", x.crowd(1), 6);
        Check.due("the last one, by a candle alone", x.burnt(2), 20);
        Check.due("how many are called", x.crowd(2), 1);
    }

    private static void exchanges() {
        Check.says("EXCHANGE of two in the QUEUE, as bits; NONE: others, the same, not both in the QUEUE");
        LeapCapital x = queue(six(10), 0, 1, 5);
        Check.due("exchange(0, 5)", x.exchange(0, 5), 32);
        Check.due("exchange(5, 0)", x.exchange(5, 0), 32);
        Check.due("exchange(0, 1)", x.exchange(0, 1), 2);
        Check.due("exchange(1, 5)", x.exchange(1, 5), 1);
        Check.due("the same", x.exchange(0, 0), -1);
        Check.due("the same, not there", x.exchange(2, 2), -1);
        Check.due("the first one is not there", x.exchange(2, 0), -1);
        Check.due("the other one is not there", x.exchange(0, 2), -1);
        Check.due("neither is", x.exchange(2, 3), -1);
        for (int other : NOBODY) {
            Check.due("exchange(0, " + other + ")", x.exchange(0, other), -1);
            Check.due("exchange(" + other + ", 0)", x.exchange(other, 0), -1);
            Check.due("exchange of it and itself", x.exchange(other, other), -1);
        }
        for (int other : Check.FAR) {
            Check.due("exchange(0, " + other + ")", x.exchange(0, other), -1);
            Check.due("exchange(" + other + ", 0)", x.exchange(other, 0), -1);
        }
        Check.says("who is HEARD on the next DAY (0: nobody)");
        LeapCapital nobody = queue(six(11), 0, 1);
        Check.due("nobody", nobody.exchange(0, 1), 0);
    }

    private static void needs() {
        Check.says("NEED: the least candle (1 to 99; told anew, lamps as they are); NONE: .. by none");
        LeapCapital x = queue(six(20), 0, 1, 2, 3, 4, 5);
        int[] need = {20, 40, 60, 80, -1, -1};
        for (int p = 0; p < 6; p++) {
            Check.due("need(" + p + ")", x.need(p), need[p]);
        }
        x.lamp(1);
        Check.due("100 by 99 and a lamp", x.need(4), 99);
        Check.due("120 by none", x.need(5), -1);
        x.lamp(18);
        Check.due("20 by 1 and 19", x.need(0), 1);
        x.lamp(1);
        Check.due("1 at least, though 20 are there", x.need(0), 1);
        x.lamp(1);
        Check.due("120 by 99 and 21", x.need(5), 99);
        x.lamp(20);
        x.lamp(19);
        Check.due("60 of lamps", x.need(3), 20);
        Check.due("60 of lamps", x.need(5), 60);
        LeapCapital one = queue("person a plain born 1890 plea 1;person b plain born 1890 plea 20;candle 40;", 0, 1);
        Check.due("a candle of 1", one.need(0), 1);
        // A longer candle is not always the better one: by 20 the first one is not in the way.
        LeapCapital other = queue("person a plain born 1890 plea 20;person b plain born 1890 plea 19;", 0, 1);
        Check.due("19, though not 20 to 38", other.need(1), 19);
        LeapCapital dead = queue("person a plain born 1890 plea 1;lives 14;", 0);
        Check.due("DEAD by then", dead.need(0), -1);
        LeapCapital last = queue("person a plain born 1890 plea 1;lives 15;", 0);
        Check.due("not DEAD by then", last.need(0), 1);
    }

    private static void needsOfOthers() {
        Check.says("NEED; NONE: others, not in the QUEUE");
        LeapCapital x = queue(six(1), 0, 5);
        Check.due("need(5)", x.need(5), 2);
        Check.due("not come", x.need(1), -1);
        for (int other : NOBODY) {
            Check.due("need(" + other + ")", x.need(other), -1);
        }
        for (int other : Check.FAR) {
            Check.due("need(" + other + ")", x.need(other), -1);
        }
        x.ride();
        Check.due("HEARD", x.need(0), -1);
    }

    private static void comings() {
        Check.says("COMING, what NONE: how many; i: the i-th PERSON; -2: others, no i-th one");
        LeapCapital x = Check.told(six(10));
        for (int days = 1; days <= 4; days++) {
            Check.due("coming(" + days + ", NONE)", x.coming(days, -1), days);
            for (int i = 0; i < 6; i++) {
                Check.due("coming(" + days + ", " + i + ")", x.coming(days, i), i);
            }
            for (int other : new int[] {-2, -3, 6, 7}) {
                Check.due("coming(" + days + ", " + other + ")", x.coming(days, other), -2);
            }
            for (int other : Check.FAR) {
                Check.due("coming(" + days + ", " + other + ")", x.coming(days, other), -2);
            }
        }
        for (int what : new int[] {-2, -1, 0, 5, 6}) {
            for (int other : new int[] {0, -1, 5, 6}) {
                Check.due("coming(" + other + ", " + what + ")", x.coming(other, what), -2);
            }
            for (int other : Check.FAR) {
                Check.due("coming(" + other + ", " + what + ")", x.coming(other, what), -2);
            }
        }
    }

    private static void whoComes() {
        Check.says("COMING: all who can COME now do");
        LeapCapital nobody = new LeapCapital();
        Check.due("nobody", nobody.coming(1, -1), 0);
        Check.due("nobody", nobody.coming(4, 0), -2);
        // One is DEAD, one is not yet born, one is in the QUEUE, one was HEARD.
        LeapCapital x = queue("person a plain born 1826 plea 1;person b plain born 1905 plea 1;person c plain born 1890 plea 20;"
                + "person d plain born 1890 plea 1;person e plain born 1904 plea 1;person f plain born 1835 plea 1;candle 3;", 3);
        x.ride();
        x.come(2);
        Check.due("two are HEARD", x.coming(1, -1), 1);
        Check.due("born this year", x.coming(1, 0), 4);
        Check.due("in his last year: DEAD by then", x.coming(1, 1), 5);
        Check.due("no third", x.coming(1, 2), -2);
        x.leave(2);
        Check.due("three can", x.coming(1, 2), 5);
        Check.due("no fourth", x.coming(1, 3), -2);
        Check.says("how many more (those in the QUEUE, too; not those HEARD already)");
        LeapCapital y = queue("person a plain born 1890 plea 1;person b plain born 1890 plea 9;person c plain born 1890 plea 4;"
                + "person d plain born 1890 plea 5;", 0);
        Check.due("with the one in the QUEUE", y.coming(1, -1), 3);
        dueRow(y, 1, 2, 1, 3);
        Check.due("on two DAYS", y.coming(2, -1), 4);
        dueRow(y, 2, 1, 2, 3);
        y.ride();
        Check.due("he is HEARD already", y.coming(1, -1), 2);
        dueRow(y, 1, 2, 1, 3);
        Check.due("all who are left", y.coming(2, -1), 3);
        dueRow(y, 2, 1, 2, 3);
    }

    private static void comingByDays() {
        Check.says("HEARD by so many DAYS (1 to 4) from now on");
        // Each DAY hears one; those who are left on the fifth DAY are too late.
        LeapCapital x = queue(six(10) + "year 1896;", 0, 1);
        int[] many = {1, 2, 3, 4};
        for (int days = 1; days <= 4; days++) {
            Check.due("coming(" + days + ", NONE)", x.coming(days, -1), many[days - 1]);
        }
        // In his last year on the DAY, or DEAD by it.
        LeapCapital y = Check.told("person a plain born 1890 plea 10;person b plain born 1884 plea 10;lives 21;");
        Check.due("b first: both", y.coming(2, -1), 2);
        dueRow(y, 2, 1, 0);
        LeapCapital z = Check.told("person a plain born 1890 plea 10;person b plain born 1884 plea 10;lives 20;");
        Check.due("b is DEAD in 1904", z.coming(2, -1), 1);
        dueRow(z, 2, 0, 1);
    }

    private static void rowsOfComing() {
        Check.says("of equal ones the first row (by numbers)");
        LeapCapital equal = Check.told(six(1));
        dueRow(equal, 1, 0, 1, 2, 3, 4, 5);
        // Two and two are lovers, the shorter plea first, on their last DAY: by the very last row alone all are HEARD.
        String pair = " lover born %d plea %d;";
        StringBuilder realm = new StringBuilder("lives 20;");
        int[] born = {1896, 1896, 1892, 1892, 1888, 1888};
        for (int p = 0; p < 6; p++) {
            realm.append("person p").append((char) ('a' + p)).append(String.format(pair, born[p], p % 2 == 0 ? 9 : 5));
        }
        LeapCapital last = Check.told(realm.toString());
        Check.due("all of them", last.coming(3, -1), 6);
        dueRow(last, 3, 5, 4, 3, 2, 1, 0);
        Check.due("all of them", last.coming(4, -1), 6);
        // Each must be HEARD on his last DAY, 1904 to 1916: a row in the middle of the 24.
        LeapCapital middle = Check.told("person a plain born 1892 plea 10;person b plain born 1884 plea 10;person c plain born 1888 plea 10;"
                + "person d plain born 1896 plea 10;lives 21;");
        Check.due("all of them", middle.coming(4, -1), 4);
        dueRow(middle, 4, 1, 2, 0, 3);
    }

    private static void dueRow(LeapCapital x, int days, int... row) {
        for (int i = 0; i < row.length; i++) {
            Check.due("coming(" + days + ", " + i + ")", x.coming(days, i), row[i]);
        }
        Check.due("coming(" + days + ", " + row.length + ")", x.coming(days, row.length), -2);
    }

    private static void julians() {
        Check.says("JULIAN: who would be HEARD behind so many years (1 to 99), and would not else; NONE: others");
        LeapCapital x = queue("person a heir born 1 plea 1;year 1896;", 0);
        int[][] rows = {{1, 0}, {3, 0}, {4, 1}, {5, 1}, {7, 1}, {8, 0}, {98, 0}, {99, 0}};
        for (int[] row : rows) {
            Check.due("julian(" + row[0] + ")", x.julian(row[0]), row[1]);
        }
        for (int other : new int[] {0, -1, -2, 100, 101}) {
            Check.due("julian(" + other + ")", x.julian(other), -1);
        }
        for (int other : Check.FAR) {
            Check.due("julian(" + other + ")", x.julian(other), -1);
        }
        LeapCapital next = queue("person a heir born 1 plea 1;year 1899;", 0);
        Check.due("in the next year", next.julian(1), 1);
        Check.due("by 1903", next.julian(4), 1);
        Check.due("by 1904", next.julian(5), 0);
        LeapCapital far = queue("person a plain born 1890 plea 1;year 1896;lives 14;", 0);
        Check.due("DEAD else", far.julian(99), 1);
        LeapCapital both = queue("person a heir born 1 plea 1;year 1996;", 0);
        Check.due("400 divides 2000", both.julian(4), 0);
        Check.due("nobody is there", new LeapCapital().julian(99), 0);
        Check.says("if each year that 4 divides were a LEAP year");
        // 1900 and 1904, not 1904 and 1908.
        LeapCapital two = queue("person a heir born 1 plea 10;person b heir born 1 plea 10;year 1896;", 0, 1);
        int[] heard = {0, 0, 0, 1, 1, 1, 1, 2, 2, 2, 2, 0};
        for (int years = 1; years <= 12; years++) {
            Check.due("julian(" + years + ") of two", two.julian(years), heard[years - 1]);
        }
        Check.says("from now on");
        LeapCapital now = queue("person a heir born 1 plea 1;year 1900;", 0);
        Check.due("not this year", now.julian(1), 0);
        Check.due("1904 by both", now.julian(4), 0);
    }

    private static void stales() {
        Check.says("STALE: who in the QUEUE would be DEAD ahead of being HEARD (by 99 years)");
        int[][] rows = {{1876, 0}, {1875, 1}, {1874, 1}, {1777, 1}};
        for (int[] row : rows) {
            LeapCapital x = queue("person a plain born " + row[0] + " plea 20;candle 19;lives 120;year 1896;", 0);
            Check.due("born " + row[0], x.stale(), row[1]);
        }
        LeapCapital in = queue("person a plain born 1896 plea 1;lives 9;", 0);
        Check.due("HEARD in his last year", in.stale(), 0);
        LeapCapital out = queue("person a plain born 1896 plea 1;lives 8;", 0);
        Check.due("DEAD in the year of the DAY", out.stale(), 1);
        LeapCapital heir = queue("person a heir born 1 plea 20;lives 1;candle 1;", 0);
        Check.due("an heir", heir.stale(), 0);
        LeapCapital six = queue(six(20) + "candle 1;lives 20;", 0, 1, 2, 3, 4, 5);
        Check.due("all six", six.stale(), 63);
        six.leave(5);
        Check.due("who is not in the QUEUE is not stale", six.stale(), 31);
        Check.due("nobody is there", new LeapCapital().stale(), 0);
    }

    private static void chances() {
        Check.says("CHANCE of one in the QUEUE, by odds of ten (0 to 10), in millionths, cut");
        LeapCapital x = queue(six(10), 0, 1, 2, 3, 4, 5);
        // The last of six is HEARD if the five others leave.
        int[] last = {1000000, 590490, 327680, 168070, 77760, 31250, 10240, 2430, 320, 10, 0};
        for (int odds = 0; odds <= 10; odds++) {
            Check.due("chance(5, " + odds + ")", x.chance(5, odds), last[odds]);
            Check.due("chance(0, " + odds + ")", x.chance(0, odds), 1000000);
            Check.due("chance(1, " + odds + ")", x.chance(1, odds), (10 - odds) * 100000);
        }
        for (int other : new int[] {-1, -2, 11, 12}) {
            Check.due("chance(5, " + other + ")", x.chance(5, other), -1);
        }
        for (int other : Check.FAR) {
            Check.due("chance(5, " + other + ")", x.chance(5, other), -1);
        }
        LeapCapital never = queue("person a plain born 1890 plea 11;", 0);
        Check.due("never", never.chance(0, 0), 0);
        LeapCapital alone = queue("person a plain born 1890 plea 10;", 0);
        Check.due("alone", alone.chance(0, 10), 1000000);
        LeapCapital dead = queue("person a plain born 1890 plea 1;lives 14;", 0);
        Check.due("DEAD by then", dead.chance(0, 5), 0);
        // Two lovers: it is HEARD only if the other one stays.
        LeapCapital lovers = queue("person a lover born 1890 plea 1;person b lover born 1890 plea 18;", 0, 1);
        for (int odds = 0; odds <= 10; odds++) {
            Check.due("chance by the other one's staying", lovers.chance(1, odds), odds * 100000);
        }
    }

    private static void chancesOfOthers() {
        Check.says("CHANCE; NONE: others, not in the QUEUE");
        LeapCapital x = queue(six(10), 0, 5);
        Check.due("not come", x.chance(1, 5), -1);
        for (int other : NOBODY) {
            Check.due("chance(" + other + ", 5)", x.chance(other, 5), -1);
        }
        for (int other : Check.FAR) {
            Check.due("chance(" + other + ", 5)", x.chance(other, 5), -1);
        }
        x.ride();
        Check.due("HEARD", x.chance(0, 5), -1);
        Check.due("the other one", x.chance(5, 5), 1000000);
    }

    private static void askingChangesNothing() {
        Check.says("(WAITING from now on, nothing else being done.)");
        LeapCapital x = queue(six(4) + "year 1899;candle 9;", 2, 0, 4);
        x.lamp(7);
        int[] counts = {6, 1899, 9, 70, 7, 3, 21, 0, 0, 0, 0, 4, 0};
        int asked = x.call(0) + x.when(4) + x.audience(12) + x.burnt(12) + x.crowd(12) + x.exchange(2, 4) + x.lastday(0)
                + x.need(4) + x.coming(4, -1) + x.old(0) + x.julian(99) + x.stale() + x.chance(4, 5) + x.ages(5, 99, 0) + x.judged(2);
        Check.due("asked", asked != 0, true);
        Check.dueCounts("behind all that", x, counts);
        Check.dueCalls(x, "204");
        Check.due("years since", x.person(2, 6), 0);
        Check.due("DAYS since", x.person(2, 7), 0);
    }
}
