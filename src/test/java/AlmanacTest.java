import java.time.DayOfWeek;
import java.time.LocalDate;
import java.time.Year;

/** Promises 13 to 17, 24, 25 and 28: years, weekdays, gates, ages; compared with the Java library's calendar. */
public final class AlmanacTest {
    private static final int[] OTHERS = {0, -1, 4001, Integer.MIN_VALUE, Integer.MAX_VALUE};

    public static void main(String[] args) {
        LeapCapital x = null;
        for (int year = 1; year <= 4000; year++) {
            x = year % 60 == 1 ? new LeapCapital() : x;
            allOf(x, year);
        }
        pairs();
        others();
        lastdays();
        olds();
        Check.end();
    }

    private static int weekdayOf(int year) {
        return LocalDate.of(year, 2, 29).getDayOfWeek().getValue() % DayOfWeek.values().length;
    }

    private static void allOf(LeapCapital x, int year) {
        boolean leap = Year.isLeap(year);
        Check.due("leap(" + year + ")", x.leap(year), leap ? 1 : 0);
        int next = year + 1;
        while (!Year.isLeap(next)) {
            next++;
        }
        Check.due("next(" + year + ")", x.next(year), next);
        Check.due("weekday(" + year + ")", x.weekday(year), leap ? weekdayOf(year) : -1);
        int cycle = -1;
        if (leap) {
            cycle = next;
            while (!Year.isLeap(cycle) || weekdayOf(cycle) != weekdayOf(year)) {
                cycle++;
            }
        }
        Check.due("cycle(" + year + ")", x.cycle(year), cycle);
    }

    private static void pairs() {
        for (int from = 1; from <= 4000; from += 97) {
            LeapCapital x = new LeapCapital();
            for (int to : new int[] {from, from + 1, from + 4, from + 8, from + 97, 4000}) {
                int other = Math.min(to, 4000);
                int many = 0;
                int longest = 0;
                int last = 0;
                for (int y = from; y <= other; y++) {
                    if (Year.isLeap(y)) {
                        many += y > from ? 1 : 0;
                        longest = last == 0 ? longest : Math.max(longest, y - last);
                        last = y;
                    }
                }
                Check.due("between(" + from + ", " + other + ")", x.between(from, other), many);
                Check.due("gate(" + from + ", " + other + ")", x.gate(from, other), longest);
            }
        }
        LeapCapital x = new LeapCapital();
        Check.due("gate with both ends", x.gate(1896, 1904), 8);
        Check.due("gate without an end", x.gate(1897, 1904), 0);
        Check.due("between, not the first one", x.between(1896, 1896), 0);
        Check.due("between, the other one too", x.between(1895, 1896), 1);
        Check.due("between(1, 4000)", x.between(1, 4000), 970);
        Check.due("next(4000)", x.next(4000), 4004);
        Check.due("cycle(4000)", x.cycle(4000), 4028);
    }

    private static void others() {
        LeapCapital x = new LeapCapital();
        for (int year : OTHERS) {
            Check.due("leap(" + year + ")", x.leap(year), -1);
            Check.due("next(" + year + ")", x.next(year), -1);
            Check.due("weekday(" + year + ")", x.weekday(year), -1);
            Check.due("cycle(" + year + ")", x.cycle(year), -1);
            Check.due("between(" + year + ", 4)", x.between(year, 4), -1);
            Check.due("between(4, " + year + ")", x.between(4, year), -1);
            Check.due("gate(" + year + ", 4)", x.gate(year, 4), -1);
            Check.due("gate(4, " + year + ")", x.gate(4, year), -1);
            Check.due("lastday(" + year + ")", x.lastday(year), -1);
            Check.due("old(" + year + ")", x.old(year), -1);
        }
        Check.due("between(9, 8)", x.between(9, 8), -1);
        Check.due("gate(9, 8)", x.gate(9, 8), -1);
    }

    private static void lastdays() {
        int[][] rows = {{1896, 1, 1896}, {1897, 1, -1}, {1897, 7, -1}, {1897, 8, 1904}, {1896, 8, 1896}, {1896, 9, 1904},
            {1850, 60, 1908}, {1850, 50, 1896}, {1850, 51, 1896}, {3000, 120, 3116}, {1, 3, -1}, {1, 4, 4}};
        for (int[] row : rows) {
            String people = "person a plain born " + row[0] + " plea 1;person b heir born " + row[0] + " plea 1;"
                    + "person c leap born " + row[0] + " plea 1;";
            LeapCapital x = Check.told(people + "lives " + row[1] + ";");
            Check.due("lastday born " + row[0] + " lives " + row[1], x.lastday(0), row[2]);
            Check.due("lastday of an heir", x.lastday(1), -1);
            Check.due("lastday of leap", x.lastday(2), row[2]);
            Check.due("lastday of nobody", x.lastday(3), -1);
        }
    }

    private static void olds() {
        LeapCapital x = Check.told("person a plain born 1896 plea 1;person b leap born 1895 plea 1;"
                + "person c heir born 1800 plea 1;person d lover born 1908 plea 1;year 1896;");
        int[] want = {0, 1, 24, 0};
        for (int p = 0; p < 4; p++) {
            Check.due("old(" + p + ")", x.old(p), want[p]);
        }
        Check.due("old(4)", x.old(4), -1);
        Check.due("old(-1)", x.old(-1), -1);
        x.waits();
        Check.due("old(0), 1897", x.old(0), 0);
        x.ride();
        Check.due("old(0), 1904", x.old(0), 1);
        Check.due("old(1), 1904", x.old(1), 2);
        Check.due("old(3), 1904", x.old(3), 0);
        x.ride();
        x.ride();
        Check.due("old(3), 1912", x.old(3), 1);
    }
}
