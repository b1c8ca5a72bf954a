import java.time.Year;

/** Promises 31 to 33, 35 to 38: sayings, gates at rest, ages, marks, counts. */
public final class GuessTest {
    private static final String THREE = "person a plain born 1850 plea 6;person b leap born 1884 plea 5;"
            + "person c heir born 1800 plea 4;";

    public static void main(String[] args) {
        sayings();
        questions();
        rests();
        ages();
        marks();
        counts();
        Check.end();
    }

    private static void sayings() {
        LeapCapital x = new LeapCapital();
        for (int years : new int[] {-1, 41, Integer.MIN_VALUE, Integer.MAX_VALUE}) {
            Check.due("say(" + years + ")", x.say(years, true), false);
        }
        Check.due("nothing said", x.count(10), 0);
        Check.due("fits(0)", x.fits(0), 2000);
        Check.due("fits(1)", x.fits(1), 1);
        Check.due("fits(2)", x.fits(2), 2000);
        for (int what : new int[] {-1, 3, Integer.MIN_VALUE, Integer.MAX_VALUE}) {
            Check.due("fits(" + what + ")", x.fits(what), -1);
        }
        Check.due("say(40, true)", x.say(40, true), true);
        Check.due("fits(0)", x.fits(0), 485);
        Check.due("fits(1)", x.fits(1), 4);
        Check.due("fits(2)", x.fits(2), 2000);
        Check.due("say(0, false)", x.say(0, false), true);
        int many = 0;
        for (int year = 1; year <= 2000; year++) {
            many += Year.isLeap(year + 40) && !Year.isLeap(year) ? 1 : 0;
        }
        Check.due("fits(0)", x.fits(0), many);
        Check.due("fits(1)", x.fits(1), 100);
        Check.due("fits(2)", x.fits(2), 1900);
        Check.due("said against it", x.say(40, false), true);
        Check.due("none fits", x.fits(0), 0);
        Check.due("none fits", x.fits(1), -1);
        Check.due("none fits", x.fits(2), -1);
        Check.due("nothing to ask", x.ask(), -1);
        for (int i = 3; i < 8; i++) {
            Check.due("say again", x.say(i, false), true);
        }
        Check.due("eight are said", x.count(10), 8);
        Check.due("no ninth", x.say(1, true), false);
        Check.due("eight are said", x.count(10), 8);
    }

    private static void questions() {
        int[][] said = {{}, {0, 1}, {0, 0}, {1, 1}, {4, 1, 0, 0}, {3, 0, 2, 0}, {1, 0, 2, 0, 3, 0, 4, 0}, {5, 0, 7, 0, 11, 0},
            {40, 1, 36, 0}, {40, 0, 0, 1}, {8, 1}, {1, 0, 2, 0, 3, 0}};
        for (int[] row : said) {
            LeapCapital x = new LeapCapital();
            for (int i = 0; i < row.length; i += 2) {
                x.say(row[i], row[i + 1] == 1);
            }
            Check.due("ask, row of " + row.length / 2, x.ask(), question(row));
        }
        Check.due("ask at first", new LeapCapital().ask(), 0);
    }

    private static int question(int[] said) {
        int best = -1;
        int least = Integer.MAX_VALUE;
        int all = 0;
        for (int behind = 0; behind <= 40; behind++) {
            int leaps = 0;
            all = 0;
            for (int year = 1; year <= 2000; year++) {
                boolean fits = true;
                for (int i = 0; i < said.length; i += 2) {
                    fits &= Year.isLeap(year + said[i]) == (said[i + 1] == 1);
                }
                all += fits ? 1 : 0;
                leaps += fits && Year.isLeap(year + behind) ? 1 : 0;
            }
            int greater = Math.max(leaps, all - leaps);
            if (greater < least) {
                least = greater;
                best = behind;
            }
        }
        return least < all ? best : -1;
    }

    private static void rests() {
        LeapCapital x = new LeapCapital();
        for (int lose = 0; lose <= 9; lose += 3) {
            for (int goes = 0; goes <= 9; goes += 3) {
                for (int stays = 0; stays <= 9; stays += 3) {
                    int[] all = new int[4];
                    int many = 0;
                    // Both stay if going in alone gets nothing; both go in if staying away gets no more than they lose.
                    if (goes == 0) {
                        all[many++] = 0;
                    }
                    all[many++] = 1;
                    all[many++] = 2;
                    if (lose == 0 && stays == 0) {
                        all[many++] = 3;
                    }
                    String of = lose + ", " + goes + ", " + stays;
                    Check.due("rests(" + of + ")", Check.rests(x, lose, goes, stays, -1), many);
                    for (int i = 0; i < 5; i++) {
                        Check.due("rests(" + of + ", " + i + ")", Check.rests(x, lose, goes, stays, i), i < many ? all[i] : -100);
                    }
                }
            }
        }
        x = new LeapCapital();
        for (int other : new int[] {-1, 10, Integer.MIN_VALUE, Integer.MAX_VALUE}) {
            Check.due("lose " + other, Check.rests(x, other, 0, 0, -1), -100);
            Check.due("goes " + other, Check.rests(x, 0, other, 0, -1), -100);
            Check.due("stays " + other, Check.rests(x, 0, 0, other, -1), -100);
        }
        for (int what : new int[] {-2, 4, Integer.MIN_VALUE, Integer.MAX_VALUE}) {
            Check.due("what " + what, Check.rests(x, 0, 0, 0, what), -100);
        }
        Check.due("four", Check.rests(x, 0, 0, 0, -1), 4);
        Check.due("the last of four", Check.rests(x, 0, 0, 0, 3), 3);
        Check.due("the last of 9", Check.rests(x, 9, 9, 9, 1), 2);
    }

    private static void ages() {
        LeapCapital x = Check.told(THREE);
        for (int[] other : new int[][] {{-1, 1, 0}, {10000, 1, 0}, {0, 0, 0}, {0, 100, 0}, {0, 1, -1}, {0, 1, 3},
            {Integer.MIN_VALUE, 1, 0}, {0, Integer.MAX_VALUE, 0}, {0, 1, Integer.MAX_VALUE}}) {
            Check.due("ages of others", x.ages(other[0], other[1], other[2]), -1);
        }
        Check.due("ages(9999, 99, 2)", x.ages(9999, 99, 2), 1995);
        Check.due("ages(0, 1, 2)", x.ages(0, 1, 2), 1897);
        Check.due("all is as ahead", x.count(1), 1896);
        Check.due("all is as ahead", x.count(5), 0);
        Check.due("all is as ahead", x.count(11), 0);
        // g by hand for seed 1: 1103527590, 2524885223 - 2147483648 = 377401575, ..: / 65536 = 16838, 5758.
        // 16838 mod 3 = 2: c comes; 5758 mod 6 = 4: no lamp.
        Check.due("ages(1, 1, 1)", x.ages(1, 1, 1), 4);
        Check.due("ages(1, 1, 0)", x.ages(1, 1, 0), 0);
        LeapCapital y = Check.told("person a heir born 1 plea 1;year 1903;");
        // One person, who comes whatever is drawn, and is heard in 1904.
        Check.due("heard", y.ages(5, 1, 0), 1);
        Check.due("queue", y.ages(5, 1, 1), 0);
        y.come(0);
        y.waits();
        Check.due("those heard ahead don't count", y.ages(5, 9, 0), 0);
        Check.due("without people", new LeapCapital().ages(7, 99, 0), 0);
        agesByLamps();
    }

    private static void agesByLamps() {
        LeapCapital x = Check.told("person a plain born 1890 plea 20;person b plain born 1890 plea 20;"
                + "person c plain born 1890 plea 20;person d plain born 1890 plea 1;person e plain born 1890 plea 1;"
                + "year 1903;candle 1;");
        for (int person = 0; person < 5; person++) {
            x.come(person);
        }
        x.lamp(20);
        x.lamp(20);
        x.lamp(19);
        // Seed 13 draws 22290 mod 5: a; 13853 mod 8: he stays; 11622 mod 6 = 0: a lamp of 27833 mod 20 and 1, 14.
        // 60 of lamps, not 59 and not 73, and the candle's one hear a, b, c and d.
        Check.due("heard by 60 of lamps", x.ages(13, 1, 0), 4);
        Check.due("queue", x.ages(13, 1, 1), 16);
        // Seed 37: 425 mod 5: a; 30044 mod 8 = 4; 14640 mod 6 = 0: a lamp of 15701 mod 20 and 1, 2.
        Check.due("heard by 60 of lamps", x.ages(37, 1, 0), 4);
        Check.due("all is as ahead", x.count(4), 59);
    }

    private static void marks() {
        LeapCapital x = Check.told(THREE);
        for (int mark : new int[] {-1, 4, Integer.MIN_VALUE, Integer.MAX_VALUE}) {
            Check.due("mark(" + mark + ", false)", x.mark(mark, false), false);
            Check.due("mark(" + mark + ", true)", x.mark(mark, true), false);
        }
        for (int mark = 0; mark < 4; mark++) {
            Check.due("nothing on " + mark, x.mark(mark, true), false);
        }
        x.come(0);
        x.lamp(3);
        x.waits();
        x.say(4, true);
        Check.reign(x, "come a;ride;");
        Check.feed(x, "wait;");
        Check.due("lay 3", x.mark(3, false), true);
        Check.due("laying is not done by hand", x.count(11), 3);
        x.come(2);
        x.ride();
        x.say(9, false);
        x.reign();
        Check.feed(x, "wait");
        Check.due("lay 0", x.mark(0, false), true);
        Check.due("back to 3", x.mark(3, true), true);
        int[] there = {3, 1897, 10, 70, 3, 1, 1, 0, 0, 2, 1, 0, 4};
        dueCounts(x, there);
        Check.due("stood", x.person(0, 6), 1);
        Check.due("judged", x.judged(1), 1);
        Check.due("fits", x.fits(0), 485);
        Check.due("nothing can be undone", x.undo(), false);
        Check.due("back to 0", x.mark(0, true), true);
        dueCounts(x, new int[] {3, 1904, 10, 70, 0, 0, 0, 5, 0, 1, 2, 0, 4});
        x.ride();
        x.say(9, false);
        Check.due("a mark stays as it was laid", x.mark(3, true), true);
        dueCounts(x, there);
        Check.due("laid anew", x.mark(0, false), true);
        x.ride();
        Check.due("back to 0", x.mark(0, true), true);
        dueCounts(x, there);
        Check.due("nothing on 1", x.mark(1, true), false);
        LeapCapital y = new LeapCapital();
        y.mark(0, false);
        y.say(4, true);
        y.mark(1, false);
        y.mark(0, true);
        y.say(0, false);
        Check.due("said since", y.fits(0), 1515);
        y.mark(1, true);
        Check.due("said then", y.fits(0), 485);
    }

    private static void dueCounts(LeapCapital x, int[] want) {
        for (int what = 0; what < want.length; what++) {
            Check.due("count(" + what + ")", x.count(what), want[what]);
        }
    }

    private static void counts() {
        LeapCapital x = Check.told(THREE + "year 1919;candle 5;lives 69;");
        x.come(1);
        x.come(2);
        x.lamp(2);
        dueCounts(x, new int[] {3, 1919, 5, 69, 2, 2, 6, 0, 1, 0, 0, 3, 0});
        x.waits();
        dueCounts(x, new int[] {3, 1920, 5, 69, 0, 1, 4, 2, 1, 0, 0, 4, 0});
        for (int what : new int[] {-1, 13, Integer.MIN_VALUE, Integer.MAX_VALUE}) {
            Check.due("count(" + what + ")", x.count(what), -1);
        }
        Check.due("NONE", LeapCapital.NONE, -1);
    }
}
