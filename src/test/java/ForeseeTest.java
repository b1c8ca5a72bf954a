/** Promises 18 to 23, 26, 27, 29, 30 and 34: what would be, if one only waits. */
public final class ForeseeTest {
    private static final int[] OTHERS = {-1, 5, 6, 31, 32, 33, Integer.MIN_VALUE, Integer.MAX_VALUE};
    private static final String FIVE = "person ann plain born 1850 plea 6;person bo leap born 1884 plea 5;"
            + "person cy heir born 1800 plea 4;person dee lover born 1860 plea 8;person eve lover born 1862 plea 7;"
            + "candle 12;lives 60;";

    public static void main(String[] args) {
        calls();
        whens();
        daysAhead();
        exchanges();
        needs();
        comings();
        julians();
        stales();
        chances();
        Check.end();
    }

    /** A new realm of five in which these came, in this order. */
    private static LeapCapital queue(int... people) {
        LeapCapital x = Check.told(FIVE);
        for (int p : people) {
            x.come(p);
        }
        return x;
    }

    private static void calls() {
        LeapCapital x = queue(4, 3, 1);
        Check.dueCalls(x, "143");
        for (int i : new int[] {-1, 3, 4, Integer.MIN_VALUE, Integer.MAX_VALUE}) {
            Check.due("call(" + i + ")", x.call(i), -1);
        }
        // Of this year, though it is none with a DAY; nothing is changed by asking.
        LeapCapital y = Check.told(FIVE + "first age<40;year 1901;");
        y.come(4);
        y.come(3);
        Check.dueCalls(y, "43");
        y.waits();
        Check.dueCalls(y, "43");
        y.leave(3);
        y.come(0);
        Check.dueCalls(y, "40");
        Check.due("year", y.count(1), 1902);
        Check.due("undoable", y.count(11), 5);
    }

    private static void whens() {
        LeapCapital x = queue(0, 2, 3);
        Check.due("when(0)", x.when(0), 8);
        Check.due("when(2)", x.when(2), 8);
        Check.due("when(3)", x.when(3), 12);
        for (int other : OTHERS) {
            Check.due("when(" + other + ")", x.when(other), -1);
        }
        Check.due("when(1), not come", x.when(1), -1);
        x.ride();
        Check.due("when(0), heard", x.when(0), -1);
        Check.due("when(3)", x.when(3), 4);
        LeapCapital y = Check.told("person a heir born 1 plea 20;person b plain born 1890 plea 20;candle 19;");
        y.come(0);
        y.come(1);
        Check.due("never heard", y.when(0), -1);
        Check.due("dead ahead of it", y.when(1), -1);
        y.lamp(1);
        Check.due("by a lamp", y.when(0), 8);
        Check.due("not by that lamp", y.when(1), -1);
    }

    private static void daysAhead() {
        LeapCapital x = queue(0, 2, 3, 4);
        int[] heard = {5, 24, 0};
        int[] burnt = {10, 8 + 3, 0};
        int[] crowd = {4, 2, 0};
        for (int i = 1; i <= 3; i++) {
            Check.due("audience(" + i + ")", x.audience(i), heard[i - 1]);
            Check.due("burnt(" + i + ")", x.burnt(i), burnt[i - 1]);
            Check.due("crowd(" + i + ")", x.crowd(i), crowd[i - 1]);
        }
        Check.due("audience(12)", x.audience(12), 0);
        Check.due("burnt(12)", x.burnt(12), 0);
        Check.due("crowd(12)", x.crowd(12), 0);
        for (int other : new int[] {0, -1, 13, Integer.MIN_VALUE, Integer.MAX_VALUE}) {
            Check.due("audience(" + other + ")", x.audience(other), -1);
            Check.due("burnt(" + other + ")", x.burnt(other), -1);
            Check.due("crowd(" + other + ")", x.crowd(other), -1);
        }
        x.lamp(10);
        Check.due("with lamps", x.audience(1), 29);
        Check.due("with lamps", x.burnt(1), 6 + 4 + 8 + 3);
        x.undo();
        x.lamp(5);
        Check.due("with fewer lamps", x.burnt(1), 6 + 4 + 7);
        Check.due("no lamps on the second DAY", x.burnt(2), 8);
        Check.due("all is as ahead", x.count(1), 1896);
        Check.due("all is as ahead", x.count(6), 29);
        // Who is dead is not called.
        LeapCapital y = Check.told("person a plain born 1890 plea 20;person b heir born 1890 plea 20;lives 19;candle 1;");
        y.come(0);
        y.come(1);
        Check.due("crowd(1), 1904", y.crowd(1), 2);
        Check.due("crowd(2), 1908", y.crowd(2), 2);
        Check.due("crowd(3), 1912", y.crowd(3), 1);
    }

    private static void exchanges() {
        LeapCapital x = queue(0, 2, 3);
        Check.due("exchange(0, 3)", x.exchange(0, 3), 12);
        Check.due("exchange(3, 0)", x.exchange(3, 0), 12);
        Check.due("exchange(2, 3)", x.exchange(2, 3), 5);
        Check.due("exchange(0, 0)", x.exchange(0, 0), -1);
        Check.due("exchange(0, 1)", x.exchange(0, 1), -1);
        Check.due("exchange(1, 0)", x.exchange(1, 0), -1);
        for (int other : OTHERS) {
            Check.due("exchange(0, " + other + ")", x.exchange(0, other), -1);
            Check.due("exchange(" + other + ", 0)", x.exchange(other, 0), -1);
        }
        Check.due("the queue is as ahead", x.person(0, 3), 0);
        // Places only: how long they stood goes with them, and is ahead of places.
        LeapCapital y = queue(0);
        y.waits();
        y.come(3);
        Check.due("exchange of places", y.exchange(0, 3), 1);
    }

    private static void needs() {
        LeapCapital x = queue(0, 2, 3);
        Check.due("need(0)", x.need(0), 6);
        // With 4 or 5, nobody ahead takes anything; with 6 to 9 the first one leaves too little.
        Check.due("need(2)", x.need(2), 4);
        Check.due("need(3)", x.need(3), 18);
        Check.due("need(1), not come", x.need(1), -1);
        for (int other : OTHERS) {
            Check.due("need(" + other + ")", x.need(other), -1);
        }
        x.lamp(5);
        Check.due("need(0) with lamps", x.need(0), 1);
        Check.due("need(2) with lamps: 10 in all", x.need(2), 5);
        Check.due("need(3) with lamps", x.need(3), 13);
        x.lamp(20);
        Check.due("need(3), 26 in all", x.need(3), 1);
        // Two lovers: the second one's plea is halved if the first one is heard.
        LeapCapital y = queue(3, 4);
        Check.due("need(4)", y.need(4), 7);
        Check.due("need(3)", y.need(3), 8);
        LeapCapital z = Check.told("person a plain born 1890 plea 1;lives 9;");
        z.come(0);
        Check.due("dead by the next DAY", z.need(0), -1);
        LeapCapital w = Check.told(sixOf(20));
        for (int p = 0; p < 6; p++) {
            w.come(p);
        }
        Check.due("need of the fourth", w.need(3), 80);
        Check.due("need of the fifth: 100 is too long", w.need(4), -1);
        w.lamp(1);
        Check.due("need of the fifth: 99 and a lamp", w.need(4), 99);
    }

    private static String sixOf(int plea) {
        StringBuilder text = new StringBuilder();
        for (char name = 'a'; name < 'g'; name++) {
            text.append("person ").append(name).append(" plain born 1890 plea ").append(plea).append(';');
        }
        return text.toString();
    }

    private static void comings() {
        LeapCapital x = queue(0, 2, 3);
        Check.due("coming(1, -1)", x.coming(1, -1), 2);
        Check.due("coming(1, 0)", x.coming(1, 0), 1);
        Check.due("coming(1, 1)", x.coming(1, 1), 4);
        Check.due("coming(1, 2)", x.coming(1, 2), -2);
        Check.due("coming(2, -1)", x.coming(2, -1), 4);
        for (int days : new int[] {0, -1, 5, Integer.MIN_VALUE, Integer.MAX_VALUE}) {
            Check.due("coming(" + days + ", -1)", x.coming(days, -1), -2);
        }
        for (int what : new int[] {-2, 2, 6, Integer.MIN_VALUE, Integer.MAX_VALUE}) {
            Check.due("coming(1, " + what + ")", x.coming(1, what), -2);
        }
        // The short pleas first; the least number first among those that are equal.
        LeapCapital y = Check.told("person a plain born 1890 plea 9;person b plain born 1890 plea 3;"
                + "person c plain born 1890 plea 8;person d plain born 1890 plea 3;person e plain born 1890 plea 4;");
        Check.due("three", y.coming(1, -1), 3);
        dueRow(y, 1, 1, 0, 2, 3, 4);
        Check.due("two days", y.coming(2, -1), 4);
        dueRow(y, 2, 0, 1, 2, 3, 4);
        Check.due("four days", y.coming(4, -1), 5);
        dueRow(y, 4, 0, 1, 2, 3, 4);
        Check.due("all is as ahead", y.count(5), 0);
        // Those HEARD already are not counted, nor do they come again.
        y.come(0);
        y.ride();
        Check.due("more", y.coming(1, -1), 3);
        dueRow(y, 1, 1, 2, 3, 4);
        Check.due("nobody can come", new LeapCapital().coming(4, -1), 0);
        Check.due("nobody can come", new LeapCapital().coming(4, 0), -2);
    }

    private static void dueRow(LeapCapital x, int days, int... row) {
        for (int i = 0; i < row.length; i++) {
            Check.due("coming(" + days + ", " + i + ")", x.coming(days, i), row[i]);
        }
        Check.due("coming(" + days + ", " + row.length + ")", x.coming(days, row.length), -2);
    }

    private static void julians() {
        LeapCapital x = queue(0, 2, 3);
        int[][] rows = {{1, 0}, {3, 0}, {4, 5}, {7, 5}, {8, 8}, {11, 8}, {12, 0}, {99, 0}};
        for (int[] row : rows) {
            Check.due("julian(" + row[0] + ")", x.julian(row[0]), row[1]);
        }
        for (int other : new int[] {0, -1, 100, Integer.MIN_VALUE, Integer.MAX_VALUE}) {
            Check.due("julian(" + other + ")", x.julian(other), -1);
        }
        Check.due("all is as ahead", x.count(1), 1896);
        x.ride();
        Check.due("heard already", x.julian(99), 0);
        LeapCapital y = Check.told("person a plain born 1890 plea 1;lives 12;");
        y.come(0);
        Check.due("dead by the new calendar", y.julian(99), 1);
        // A lamp burns on the old calendar's DAY of 1900, and in 1904 there is none then.
        LeapCapital z = Check.told("person a plain born 1890 plea 9;person b plain born 1890 plea 9;candle 5;");
        z.come(0);
        z.come(1);
        z.lamp(13);
        Check.due("lamps", z.julian(4), 3);
        Check.due("lamps", z.julian(8), 0);
    }

    private static void stales() {
        LeapCapital x = Check.told("person a plain born 1890 plea 20;person b heir born 1890 plea 20;"
                + "person c plain born 1890 plea 1;person d plain born 1836 plea 1;person e plain born 1890 plea 19;candle 19;");
        Check.due("nobody is there", x.stale(), 0);
        for (int p = 0; p < 5; p++) {
            x.come(p);
        }
        // The heir never dies, c and e are heard in time, d would be 70 in 1906.
        Check.due("stale", x.stale(), 1);
        x.leave(2);
        x.leave(3);
        x.come(3);
        Check.due("d behind e: too late", x.stale(), 1 + 8);
        LeapCapital y = Check.told("person a plain born 1890 plea 20;person b plain born 1875 plea 20;person c plain born 1874 plea 20;"
                + "candle 1;lives 120;");
        y.come(0);
        y.come(1);
        y.come(2);
        Check.due("dead in more than 99 years", y.stale(), 2 + 4);
        LeapCapital z = Check.told("person a plain born 1876 plea 20;person b plain born 1875 plea 20;candle 1;lives 120;");
        z.come(0);
        z.come(1);
        Check.due("dead in 100 years, in 99", z.stale(), 2);
    }

    private static void chances() {
        LeapCapital x = queue(0, 2, 3);
        Check.due("chance(3, 5)", x.chance(3, 5), 500000);
        Check.due("chance(3, 3): ann must leave", x.chance(3, 3), 700000);
        Check.due("chance(3, 0)", x.chance(3, 0), 1000000);
        Check.due("chance(3, 10)", x.chance(3, 10), 0);
        Check.due("chance(0, 10)", x.chance(0, 10), 1000000);
        Check.due("chance(1, 5), not come", x.chance(1, 5), -1);
        Check.due("chance(3, -1)", x.chance(3, -1), -1);
        Check.due("chance(3, 11)", x.chance(3, 11), -1);
        for (int other : OTHERS) {
            Check.due("chance(" + other + ", 5)", x.chance(other, 5), -1);
            Check.due("chance(3, odds)", x.chance(3, other < 0 || other > 10 ? other : -7), -1);
        }
        Check.due("all is as ahead", x.count(6), 13);
        LeapCapital w = Check.told(sixOf(5));
        for (int p = 0; p < 6; p++) {
            w.come(p);
        }
        // At most one of the five ahead stays: 0.7^5 + 5 * 0.3 * 0.7^4.
        Check.due("chance of the last one", w.chance(5, 3), 168070 + 360150);
        Check.due("chance of the third one", w.chance(2, 9), 190000);
    }
}
