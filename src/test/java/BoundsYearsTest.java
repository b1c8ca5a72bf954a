/** The bounds of years (1 to 4000) and of persons among them: promises 13 to 17, 24, 25 and 28. */
public final class BoundsYearsTest {
    private static final int[] NO_YEARS = {0, -1, -4, -400, 4001, 4004, 8000};

    public static void main(String[] args) {
        leaps();
        betweens();
        nexts();
        weekdays();
        gates();
        cycles();
        lastdays();
        lastdaysOfOthers();
        olds();
        oldsOfOthers();
        Check.end();
    }

    private static void leaps() {
        Check.says("leap: 1 a LEAP year, 0 none; NONE: others (1 to 4000)");
        LeapCapital x = new LeapCapital();
        int[][] rows = {{1, 0}, {2, 0}, {3, 0}, {4, 1}, {5, 0}, {96, 1}, {100, 0}, {104, 1}, {200, 0}, {300, 0}, {396, 1}, {400, 1},
            {404, 1}, {800, 1}, {1900, 0}, {1996, 1}, {2000, 1}, {2004, 1}, {3900, 0}, {3996, 1}, {3999, 0}, {4000, 1}};
        for (int[] row : rows) {
            Check.due("leap(" + row[0] + ")", x.leap(row[0]), row[1]);
        }
        for (int other : NO_YEARS) {
            Check.due("leap(" + other + ")", x.leap(other), -1);
        }
        for (int other : Check.FAR) {
            Check.due("leap(" + other + ")", x.leap(other), -1);
        }
    }

    private static void betweens() {
        Check.says("BETWEEN two years (1 to 4000): LEAP years behind the first one, up to the other one; "
                + "NONE: others, the other one is ahead of the first one");
        LeapCapital x = new LeapCapital();
        int[][] rows = {{1, 1, 0}, {1, 3, 0}, {1, 4, 1}, {3, 4, 1}, {4, 4, 0}, {4, 7, 0}, {4, 8, 1}, {96, 103, 0}, {96, 104, 1},
            {96, 100, 0}, {396, 400, 1}, {400, 400, 0}, {1, 4000, 970}, {1, 3999, 969}, {4, 4000, 969}, {3996, 4000, 1},
            {3999, 4000, 1}, {4000, 4000, 0}, {4000, 3999, -1}, {2, 1, -1}, {1, 0, -1}, {0, 1, -1}, {0, 0, -1}, {4000, 4001, -1},
            {4001, 4001, -1}, {4001, 4000, -1}, {1, 4001, -1}, {0, 4000, -1}, {-1, 4, -1}};
        for (int[] row : rows) {
            Check.due("between(" + row[0] + ", " + row[1] + ")", x.between(row[0], row[1]), row[2]);
        }
        for (int other : Check.FAR) {
            Check.due("between(" + other + ", 4000)", x.between(other, 4000), -1);
            Check.due("between(1, " + other + ")", x.between(1, other), -1);
            Check.due("between of it and itself", x.between(other, other), -1);
        }
    }

    private static void nexts() {
        Check.says("NEXT: the first LEAP year behind one (1 to 4000); NONE: others");
        LeapCapital x = new LeapCapital();
        int[][] rows = {{1, 4}, {3, 4}, {4, 8}, {95, 96}, {96, 104}, {100, 104}, {103, 104}, {396, 400}, {399, 400}, {400, 404},
            {3896, 3904}, {3995, 3996}, {3996, 4000}, {3999, 4000}, {4000, 4004}};
        for (int[] row : rows) {
            Check.due("next(" + row[0] + ")", x.next(row[0]), row[1]);
        }
        for (int other : NO_YEARS) {
            Check.due("next(" + other + ")", x.next(other), -1);
        }
        for (int other : Check.FAR) {
            Check.due("next(" + other + ")", x.next(other), -1);
        }
    }

    private static void weekdays() {
        Check.says("WEEKDAY of the twenty ninth of February of a LEAP year (1 to 4000; 0 Sunday .. 6 Saturday; "
                + "the first of January of the year 1 is a Monday); NONE: others, no LEAP year");
        LeapCapital x = new LeapCapital();
        // Five weekdays a four years; seven of them, from Sunday on, have each.
        int[] first = {0, 5, 3, 1, 6, 4, 2};
        for (int i = 0; i < 7; i++) {
            Check.due("weekday(" + (4 + 4 * i) + ")", x.weekday(4 + 4 * i), first[i]);
        }
        int[][] rows = {{1, -1}, {3, -1}, {5, -1}, {100, -1}, {1900, -1}, {400, 2}, {2000, 2}, {2024, 4}, {3996, 4}, {3999, -1}, {4000, 2}};
        for (int[] row : rows) {
            Check.due("weekday(" + row[0] + ")", x.weekday(row[0]), row[1]);
        }
        for (int other : NO_YEARS) {
            Check.due("weekday(" + other + ")", x.weekday(other), -1);
        }
        for (int other : Check.FAR) {
            Check.due("weekday(" + other + ")", x.weekday(other), -1);
        }
    }

    private static void gates() {
        Check.says("GATE: the longest time from a LEAP year to the next one of those from one year to another one "
                + "(both, too; 1 to 4000; 0: there are no two); NONE: others, the other one is ahead of the first one");
        LeapCapital x = new LeapCapital();
        int[][] rows = {{1, 1, 0}, {4, 4, 0}, {4, 7, 0}, {4, 8, 4}, {5, 8, 0}, {5, 12, 4}, {1, 8, 4}, {96, 103, 0}, {96, 104, 8},
            {97, 104, 0}, {92, 103, 4}, {92, 104, 8}, {97, 108, 4}, {396, 404, 4}, {1, 95, 4}, {1, 4000, 8}, {3904, 4000, 4},
            {3896, 4000, 8}, {3996, 4000, 4}, {3997, 4000, 0}, {4000, 4000, 0}, {4000, 3999, -1}, {2, 1, -1}, {1, 0, -1}, {0, 1, -1},
            {0, 0, -1}, {4000, 4001, -1}, {4001, 4001, -1}, {4001, 4000, -1}, {1, 4001, -1}, {0, 4000, -1}};
        for (int[] row : rows) {
            Check.due("gate(" + row[0] + ", " + row[1] + ")", x.gate(row[0], row[1]), row[2]);
        }
        for (int other : Check.FAR) {
            Check.due("gate(" + other + ", 4000)", x.gate(other, 4000), -1);
            Check.due("gate(1, " + other + ")", x.gate(1, other), -1);
            Check.due("gate of it and itself", x.gate(other, other), -1);
        }
    }

    private static void cycles() {
        Check.says("CYCLE of a LEAP year (1 to 4000): the next one whose twenty ninth of February is on the same WEEKDAY; "
                + "NONE: others, no LEAP year");
        LeapCapital x = new LeapCapital();
        // 28 years on; over a year that 100 divides, 12 or 40; all is as it was in 400.
        int[][] rows = {{4, 32}, {72, 112}, {76, 116}, {88, 128}, {92, 104}, {96, 108}, {400, 428}, {1872, 1912}, {1892, 1904}, {1896, 1908},
            {2000, 2028}, {3972, 4000}, {3996, 4024}, {4000, 4028}, {1, -1}, {2, -1}, {3, -1}, {5, -1}, {100, -1}, {1900, -1},
            {3999, -1}};
        for (int[] row : rows) {
            Check.due("cycle(" + row[0] + ")", x.cycle(row[0]), row[1]);
        }
        for (int other : NO_YEARS) {
            Check.due("cycle(" + other + ")", x.cycle(other), -1);
        }
        for (int other : Check.FAR) {
            Check.due("cycle(" + other + ")", x.cycle(other), -1);
        }
    }

    private static void lastdays() {
        Check.says("LASTDAY of a PERSON: the last LEAP year of those from the one in which they were born on in which they are not DEAD; NONE: .. none");
        int[][] rows = {{4, 1, 4}, {4, 4, 4}, {4, 5, 8}, {5, 1, -1}, {5, 3, -1}, {5, 4, 8}, {1, 3, -1}, {1, 4, 4}, {97, 7, -1}, {97, 8, 104},
            {96, 8, 96}, {96, 9, 104}, {397, 3, -1}, {397, 4, 400}, {1840, 60, 1896}, {1840, 64, 1896}, {1840, 65, 1904},
            {3000, 1, -1}, {3000, 4, -1}, {3000, 5, 3004}, {3000, 120, 3116}, {1, 120, 120}, {1, 119, 116}};
        for (int[] row : rows) {
            for (String kind : new String[] {"plain", "leap", "lover"}) {
                LeapCapital x = Check.told("person a " + kind + " born " + row[0] + " plea 1;lives " + row[1] + ";");
                Check.due("lastday, born " + row[0] + ", lives " + row[1], x.lastday(0), row[2]);
            }
        }
    }

    private static void lastdaysOfOthers() {
        Check.says("LASTDAY; NONE: others, an heir, none");
        LeapCapital x = Check.told("person a heir born 1896 plea 1;person b plain born 1896 plea 1;lives 60;");
        Check.due("an heir", x.lastday(0), -1);
        Check.due("the last PERSON", x.lastday(1), 1952);
        for (int other : new int[] {-1, -2, 2, 3, 5, 6, 32}) {
            Check.due("lastday(" + other + ")", x.lastday(other), -1);
        }
        for (int other : Check.FAR) {
            Check.due("lastday(" + other + ")", x.lastday(other), -1);
        }
        for (int i = 0; i < 70; i++) {
            x.waits();
        }
        Check.due("DEAD long since", x.lastday(1), 1952);
        Check.due("nobody", new LeapCapital().lastday(0), -1);
    }

    private static void olds() {
        Check.says("OLD: how many LEAP years there were behind the one in which a PERSON was born, up to now (0: none)");
        int[][] rows = {{1896, 1896, 0}, {1895, 1896, 1}, {1895, 1895, 0}, {1896, 1899, 0}, {1896, 1903, 0}, {1896, 1904, 1},
            {1892, 1896, 1}, {1897, 1896, 0}, {3000, 1, 0}, {1, 3, 0}, {1, 4, 1}, {1, 3000, 727}, {4, 3000, 726}, {3000, 3000, 0},
            {2996, 3000, 0}, {399, 400, 1}, {400, 403, 0}, {99, 100, 0}};
        for (int[] row : rows) {
            LeapCapital x = Check.told("person a plain born " + row[0] + " plea 1;year " + row[1] + ";");
            Check.due("old, born " + row[0] + ", in " + row[1], x.old(0), row[2]);
        }
        LeapCapital y = Check.told("person a plain born 1900 plea 1;person b plain born 1904 plea 1;year 1903;");
        Check.due("ahead of it", y.old(0), 0);
        y.waits();
        Check.due("up to now", y.old(0), 1);
        Check.due("not the one in which he was born", y.old(1), 0);
        y.undo();
        Check.due("undone", y.old(0), 0);
    }

    private static void oldsOfOthers() {
        Check.says("OLD; NONE: others");
        LeapCapital x = Check.told("person a heir born 1800 plea 1;person b plain born 1800 plea 1;");
        Check.due("an heir", x.old(0), 24);
        Check.due("one who is DEAD", x.old(1), 24);
        for (int other : new int[] {-1, -2, 2, 3, 5, 6, 32}) {
            Check.due("old(" + other + ")", x.old(other), -1);
        }
        for (int other : Check.FAR) {
            Check.due("old(" + other + ")", x.old(other), -1);
        }
        Check.due("nobody", new LeapCapital().old(0), -1);
    }
}
