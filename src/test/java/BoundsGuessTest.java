import java.time.Year;

/** The bounds of number 3 of the terms: SAID, FITS, ASK, RESTS, AGES, MARKS and counts; promises 31 to 33, 35 to 38. */
public final class BoundsGuessTest {
    private static final int THROWS = -100;

    public static void main(String[] args) {
        sayings();
        eightSaid();
        unknownYears();
        fits();
        noneFits();
        asks();
        asksFarOff();
        stakes();
        whichRest();
        agesAsked();
        agesOfOneYear();
        agesOfOnePerson();
        agesOfNobody();
        agesWhoComes();
        whichMarks();
        whatAMarkHolds();
        marksAndUndo();
        counts();
        Check.end();
    }

    private static void sayings() {
        Check.says("SAID: that so many years (0 to 40) ..: true; false: others");
        LeapCapital x = new LeapCapital();
        for (int other : new int[] {-1, -2, 41, 42}) {
            Check.due("say(" + other + ", true)", x.say(other, true), false);
            Check.due("say(" + other + ", false)", x.say(other, false), false);
        }
        for (int other : Check.FAR) {
            Check.due("say(" + other + ", true)", x.say(other, true), false);
            Check.due("say(" + other + ", false)", x.say(other, false), false);
        }
        Check.due("nothing is SAID", x.count(10), 0);
        Check.due("all fit", x.fits(0), 2000);
        Check.due("say(0, false)", x.say(0, false), true);
        Check.due("say(40, true)", x.say(40, true), true);
        Check.due("two are SAID", x.count(10), 2);
        Check.due("fits(0)", x.fits(0), fitting(0, false, 40, true));
    }

    private static int fitting(int years, boolean leap, int more, boolean leapThen) {
        int many = 0;
        for (int year = 1; year <= 2000; year++) {
            many += Year.isLeap(year + years) == leap && Year.isLeap(year + more) == leapThen ? 1 : 0;
        }
        return many;
    }

    private static void eightSaid() {
        Check.says("SAID: .. 8 at most; false: .. 8 there are");
        LeapCapital x = new LeapCapital();
        for (int i = 1; i <= 8; i++) {
            Check.due("the " + i + ". saying", x.say(4, true), true);
            Check.due("SAID", x.count(10), i);
            Check.due("one of others", x.say(41, true), false);
            Check.due("SAID", x.count(10), i);
        }
        Check.due("no ninth", x.say(4, true), false);
        Check.due("nor another one", x.say(0, false), false);
        Check.due("8 are SAID", x.count(10), 8);
        Check.due("and no ninth", x.fits(0), 485);
        // The eighth counts like the others.
        LeapCapital y = new LeapCapital();
        for (int i = 0; i < 7; i++) {
            y.say(4, true);
        }
        y.say(0, false);
        Check.due("the eighth", y.fits(0), 15);
    }

    private static void unknownYears() {
        Check.says("an unknown one (1 to 2000)");
        LeapCapital all = new LeapCapital();
        Check.due("how many", all.fits(0), 2000);
        Check.due("the first", all.fits(1), 1);
        Check.due("the last", all.fits(2), 2000);
        // 0 would be one that fits, and 2001, were they among them.
        int[][] rows = {{0, 1, 485, 4, 2000}, {4, 1, 485, 4, 2000}, {3, 1, 485, 1, 1997}, {40, 1, 485, 4, 2000}, {39, 1, 485, 1, 1997},
            {0, 0, 1515, 1, 1999}, {3, 0, 1515, 2, 2000}, {8, 1, 485, 4, 2000}};
        for (int[] row : rows) {
            LeapCapital x = new LeapCapital();
            x.say(row[0], row[1] == 1);
            Check.due("how many by " + row[0], x.fits(0), row[2]);
            Check.due("the first by " + row[0], x.fits(1), row[3]);
            Check.due("the last by " + row[0], x.fits(2), row[4]);
        }
    }

    private static void fits() {
        Check.says("FITS, what 0: how many, 1: the first, 2: the last; NONE: others");
        LeapCapital x = new LeapCapital();
        for (int other : new int[] {-1, -2, 3, 4}) {
            Check.due("fits(" + other + ")", x.fits(other), -1);
        }
        for (int other : Check.FAR) {
            Check.due("fits(" + other + ")", x.fits(other), -1);
        }
    }

    private static void noneFits() {
        Check.says("FITS; NONE: .. none (but 0); ASK: .. if that is less than all; NONE: none parts them");
        LeapCapital x = new LeapCapital();
        x.say(7, true);
        x.say(7, false);
        Check.due("none", x.fits(0), 0);
        Check.due("no first", x.fits(1), -1);
        Check.due("no last", x.fits(2), -1);
        Check.due("nothing to ask", x.ask(), -1);
        // Those that 100 divides, but not 400: each is like the others for 40 years.
        LeapCapital alike = new LeapCapital();
        alike.say(4, true);
        alike.say(0, false);
        Check.due("fifteen", alike.fits(0), 15);
        Check.due("100", alike.fits(1), 100);
        Check.due("1900", alike.fits(2), 1900);
        Check.due("none parts them", alike.ask(), -1);
    }

    private static void asks() {
        Check.says("ASK: the least number of years (0 to 40) by which the greater number of these .. is the least");
        Check.due("nothing SAID: 0 parts them as well as any", new LeapCapital().ask(), 0);
        // With 2001 among the years it would be 3 behind say(0, false), without 2000 it would be 1 behind say(15, false).
        int[][] rows = {{0, 1, 4}, {1, 1, 5}, {2, 1, 6}, {3, 1, 7}, {0, 0, 1}, {15, 0, 0}, {20, 1, 0}, {37, 1, 1}, {22, 1, 2}, {39, 1, 3},
            {40, 1, 0}};
        for (int[] row : rows) {
            LeapCapital x = new LeapCapital();
            x.say(row[0], row[1] == 1);
            Check.due("ask behind say(" + row[0] + ", " + (row[1] == 1) + ")", x.ask(), row[2]);
        }
        LeapCapital none = new LeapCapital();
        none.say(0, false);
        none.say(1, false);
        Check.due("ask behind two", none.ask(), asked(0, 1));
        none.say(2, false);
        Check.due("ask behind three", none.ask(), asked(0, 1, 2));
        none.say(3, false);
        Check.due("ask behind four", none.ask(), asked(0, 1, 2, 3));
        // Asked again, it is counted anew.
        LeapCapital again = new LeapCapital();
        for (int i = 0; i < 4; i++) {
            Check.due("ask again", again.ask(), 0);
        }
        again.mark(0, false);
        again.say(0, false);
        Check.due("ask behind say(0, false)", again.ask(), 1);
        Check.due("ask again", again.ask(), 1);
        again.mark(0, true);
        Check.due("back to where nothing was SAID", again.ask(), 0);
    }

    /** What is to be asked when so many years behind it, each of these, there is no LEAP year. */
    private static int asked(int... none) {
        int best = -1;
        int least = Integer.MAX_VALUE;
        for (int behind = 0; behind <= 40; behind++) {
            int leaps = 0;
            int all = 0;
            for (int year = 1; year <= 2000; year++) {
                boolean fits = true;
                for (int said : none) {
                    fits &= !Year.isLeap(year + said);
                }
                all += fits ? 1 : 0;
                leaps += fits && Year.isLeap(year + behind) ? 1 : 0;
            }
            int greater = Math.max(leaps, all - leaps);
            if (greater < all && greater < least) {
                least = greater;
                best = behind;
            }
        }
        return best;
    }

    private static void asksFarOff() {
        Check.says("ASK: the least number of years (0 to 40); SAID: 8 at most");
        // By eight sayings it is 35 at most: each rules out one place of a year that 100 divides.
        for (int rest = 0; rest < 4; rest++) {
            LeapCapital x = new LeapCapital();
            Check.due("ask", x.ask(), 0);
            for (int i = 0; i < 8; i++) {
                x.say(rest + 4 * i, true);
                Check.due("ask behind " + (i + 1) + " sayings from " + rest + " on", x.ask(), rest + 4 * (i + 1));
            }
        }
    }

    private static void stakes() {
        Check.says("each loses so much (0 to 9); he gets so much (0 to 9), the other one so much (0 to 9); NoSuchElementException: others");
        LeapCapital x = new LeapCapital();
        for (int other : new int[] {-1, -2, 10, 11}) {
            dueNoStake(x, other);
        }
        for (int other : Check.FAR) {
            dueNoStake(x, other);
        }
        LeapCapital y = new LeapCapital();
        for (int lose : new int[] {0, 1, 9}) {
            for (int goes : new int[] {0, 1, 9}) {
                for (int stays : new int[] {0, 1, 9}) {
                    int many = 2 + (goes == 0 ? 1 : 0) + (lose == 0 && stays == 0 ? 1 : 0);
                    Check.due("rests(" + lose + ", " + goes + ", " + stays + ", NONE)", Check.rests(y, lose, goes, stays, -1), many);
                }
            }
        }
    }

    private static void dueNoStake(LeapCapital x, int other) {
        for (int what : new int[] {-1, 0}) {
            Check.due("rests(" + other + ", 0, 0, " + what + ")", Check.rests(x, other, 0, 0, what), THROWS);
            Check.due("rests(0, " + other + ", 0, " + what + ")", Check.rests(x, 0, other, 0, what), THROWS);
            Check.due("rests(0, 0, " + other + ", " + what + ")", Check.rests(x, 0, 0, other, what), THROWS);
        }
    }

    private static void whichRest() {
        Check.says("what NONE: how many; i: the i-th as 2 * the first one's choice + the other one's (1 goes in; the least first); "
                + "NoSuchElementException: others, none such");
        LeapCapital x = new LeapCapital();
        int[][] rows = {{0, 0, 0, 0, 1, 2, 3}, {0, 1, 0, 1, 2, 3}, {1, 0, 0, 0, 1, 2}, {0, 0, 1, 0, 1, 2}, {1, 1, 0, 1, 2}, {9, 9, 9, 1, 2},
            {9, 0, 9, 0, 1, 2}, {0, 9, 0, 1, 2, 3}};
        for (int[] row : rows) {
            String of = row[0] + ", " + row[1] + ", " + row[2] + ", ";
            int many = row.length - 3;
            Check.due("rests(" + of + "NONE)", Check.rests(x, row[0], row[1], row[2], -1), many);
            for (int i = 0; i < many; i++) {
                Check.due("rests(" + of + i + ")", Check.rests(x, row[0], row[1], row[2], i), row[3 + i]);
            }
            for (int other : new int[] {-2, -3, many, many + 1, 4, 5}) {
                Check.due("rests(" + of + other + ")", Check.rests(x, row[0], row[1], row[2], other), THROWS);
            }
            for (int other : Check.FAR) {
                Check.due("rests(" + of + other + ")", Check.rests(x, row[0], row[1], row[2], other), THROWS);
            }
        }
    }

    private static void agesAsked() {
        Check.says("AGES by a SEED (0 to 9999), of so many years (1 to 99), what 0: HEARD, 1: bits, 2: the year; NONE: others");
        LeapCapital x = Check.told("person a heir born 1 plea 1;year 1896;");
        for (int what = 0; what < 3; what++) {
            for (int other : new int[] {-1, -2, 10000, 10001}) {
                Check.due("ages(" + other + ", 9, " + what + ")", x.ages(other, 9, what), -1);
            }
            for (int other : new int[] {0, -1, -2, 100, 101}) {
                Check.due("ages(9, " + other + ", " + what + ")", x.ages(9, other, what), -1);
            }
            for (int other : Check.FAR) {
                Check.due("ages(" + other + ", 9, " + what + ")", x.ages(other, 9, what), -1);
                Check.due("ages(9, " + other + ", " + what + ")", x.ages(9, other, what), -1);
            }
        }
        for (int other : new int[] {-1, -2, 3, 4}) {
            Check.due("ages(9, 9, " + other + ")", x.ages(9, 9, other), -1);
        }
        for (int other : Check.FAR) {
            Check.due("ages(9, 9, " + other + ")", x.ages(9, 9, other), -1);
        }
        int[][] rows = {{0, 1}, {0, 2}, {9999, 1}, {9999, 98}, {0, 99}, {9999, 99}};
        for (int[] row : rows) {
            Check.due("the year of " + row[1], x.ages(row[0], row[1], 2), 1896 + row[1]);
            Check.due("HEARD is one or nobody", x.ages(row[0], row[1], 0) >> 1, 0);
            Check.due("bits of one", x.ages(row[0], row[1], 1) >> 1, 0);
        }
        LeapCapital late = Check.told("year 3000;");
        Check.due("the year 3099", late.ages(0, 99, 2), 3099);
    }

    /** A DRAW as the document tells it. */
    private static final class Draws {
        private long g;

        Draws(int seed) {
            g = seed;
        }

        int below(int m) {
            g = (g * 1103515245L + 12345L) % 2147483648L;
            return (int) (g / 65536L % m);
        }
    }

    private static void agesOfOneYear() {
        Check.says("a DRAW below these ..; a DRAW below 8: 0: he LEAVES; a DRAW below 6: 0: a LAMP of a DRAW below 20 and 1; then he WAITS");
        boolean[] lamps = new boolean[22];
        int left = 0;
        LeapCapital x = null;
        for (int i = 0; i < 1200; i++) {
            int seed = i < 600 ? i : 9999 - (i - 600);
            if (i % 100 == 0) {
                x = Check.told("person a plain born 1890 plea 20;person b plain born 1890 plea 1;year 1903;candle 1;");
                x.come(0);
                x.come(1);
            }
            Draws draws = new Draws(seed);
            int drawn = draws.below(2);
            int queue = 3;
            if (draws.below(8) == 0) {
                queue &= ~(1 << drawn);
                left++;
            }
            int lamp = draws.below(6) == 0 ? draws.below(20) + 1 : 0;
            lamps[lamp] = true;
            int candle = 1 + lamp;
            int heard = 0;
            if ((queue & 1) != 0 && candle >= 20) {
                candle -= 20;
                heard |= 1;
            }
            if ((queue & 2) != 0 && candle >= 1) {
                heard |= 2;
            }
            Check.due("ages(" + seed + ", 1, 0)", x.ages(seed, 1, 0), Integer.bitCount(heard));
            Check.due("ages(" + seed + ", 1, 1)", x.ages(seed, 1, 1), queue & ~heard);
        }
        for (int lamp : new int[] {0, 1, 2, 18, 19, 20}) {
            Check.due("a lamp of " + lamp + " was drawn", lamps[lamp], true);
        }
        Check.due("none of 21", lamps[21], false);
        Check.due("some left", left > 0, true);
    }

    private static void agesOfOnePerson() {
        Check.says("if there are PERSONS: a DRAW below these (one: it is drawn all the same)");
        LeapCapital x = null;
        int heard = 0;
        for (int i = 0; i < 300; i++) {
            int seed = 33 * i;
            if (i % 100 == 0) {
                x = Check.told("person a plain born 1890 plea 20;year 1903;candle 19;");
            }
            Draws draws = new Draws(seed);
            draws.below(1);
            int lit = draws.below(6) == 0 ? 1 : 0;
            heard += lit;
            Check.due("he comes, and is HEARD by a lamp: ages(" + seed + ", 1, 0)", x.ages(seed, 1, 0), lit);
            Check.due("else he is in the QUEUE: ages(" + seed + ", 1, 1)", x.ages(seed, 1, 1), 1 - lit);
        }
        Check.due("some are HEARD, some not", heard > 0 && heard < 300, true);
    }

    private static void agesOfNobody() {
        Check.says("each, if there are PERSONS: a DRAW below these");
        LeapCapital x = new LeapCapital();
        Check.due("HEARD", x.ages(0, 99, 0), 0);
        Check.due("bits", x.ages(0, 99, 1), 0);
        Check.due("the year", x.ages(0, 99, 2), 1995);
    }

    private static void agesWhoComes() {
        Check.says("he COMES, if he can; else, if he is in the QUEUE ..");
        // Not yet born, DEAD, or HEARD: nothing comes of him, and no DRAW below 8 is made.
        String[] others = {"person a plain born 3000 plea 1;", "person a plain born 1 plea 1;"};
        for (String other : others) {
            LeapCapital x = Check.told(other + "year 1903;");
            for (int seed = 0; seed < 100; seed++) {
                Check.due("ages(" + seed + ", 20, 0)", x.ages(seed, 20, 0), 0);
                Check.due("ages(" + seed + ", 20, 1)", x.ages(seed, 20, 1), 0);
            }
        }
        Check.says("how many were HEARD by these");
        LeapCapital heard = Check.told("person a heir born 1 plea 1;year 1903;");
        heard.come(0);
        heard.waits();
        Check.due("HEARD ahead of them", heard.ages(5, 99, 0), 0);
        Check.says("(all is as ahead then)");
        LeapCapital x = Check.told("person a heir born 1 plea 20;year 1903;");
        x.come(0);
        x.lamp(4);
        x.say(1, true);
        for (int seed = 0; seed < 20; seed++) {
            x.ages(seed, 99, 0);
        }
        Check.dueCounts("behind ages", x, 1, 1903, 10, 70, 4, 1, 1, 0, 0, 0, 1, 2, 0);
        Check.says("a LAMP (60 of lamps at most)");
        LeapCapital full = Check.told("person a heir born 1 plea 20;person b heir born 1 plea 20;person c heir born 1 plea 20;"
                + "person d heir born 1 plea 2;candle 1;year 1903;");
        for (int p = 0; p < 4; p++) {
            full.come(p);
        }
        full.lamp(20);
        full.lamp(20);
        full.lamp(20);
        for (int seed = 0; seed < 100; seed++) {
            Draws draws = new Draws(seed);
            draws.below(4);
            boolean leaves = draws.below(8) == 0;
            if (!leaves) {
                Check.due("61 for 62 of pleas, seed " + seed, full.ages(seed, 1, 1), 8);
            }
        }
    }

    private static void whichMarks() {
        Check.says("MARKS 0 to 3; true; false: none such, nothing is on it (back)");
        LeapCapital x = new LeapCapital();
        for (int mark : new int[] {-1, -2, 4, 5}) {
            Check.due("mark(" + mark + ", false)", x.mark(mark, false), false);
            Check.due("mark(" + mark + ", true)", x.mark(mark, true), false);
        }
        for (int mark : Check.FAR) {
            Check.due("mark(" + mark + ", false)", x.mark(mark, false), false);
            Check.due("mark(" + mark + ", true)", x.mark(mark, true), false);
        }
        for (int mark = 0; mark < 4; mark++) {
            Check.due("nothing is on " + mark, x.mark(mark, true), false);
        }
        // Each holds its own year.
        for (int mark = 0; mark < 4; mark++) {
            Check.due("mark(" + mark + ", false)", x.mark(mark, false), true);
            for (int other = mark + 1; other < 4; other++) {
                Check.due("nothing is on " + other, x.mark(other, true), false);
            }
            x.waits();
        }
        for (int mark = 3; mark >= 0; mark--) {
            Check.due("mark(" + mark + ", true)", x.mark(mark, true), true);
            Check.due("year", x.count(1), 1896 + mark);
        }
        Check.due("it is still there", x.mark(2, true), true);
        Check.due("year", x.count(1), 1898);
        Check.due("laid anew", x.mark(0, false), true);
        x.waits();
        Check.due("back", x.mark(0, true), true);
        Check.due("year", x.count(1), 1898);
    }

    private static void whatAMarkHolds() {
        Check.says("MARKS 0 to 3 hold how it is, the REIGN, what is SAID");
        String realm = "person a heir born 1 plea 20;person b heir born 1 plea 1;person c heir born 1 plea 1;";
        for (int mark = 0; mark < 4; mark++) {
            LeapCapital x = Check.told(realm);
            x.come(1);
            x.come(0);
            x.ride();
            x.come(2);
            x.lamp(9);
            x.say(4, true);
            Check.reign(x, "come a;leave b;ride;");
            x.mark(mark, false);
            x.leave(0);
            x.ride();
            x.come(0);
            x.lamp(20);
            x.say(0, false);
            x.mark(3 - mark, false);
            Check.reign(x, "wait;");
            Check.due("back", x.mark(mark, true), true);
            Check.dueCounts("back on " + mark, x, 3, 1904, 10, 70, 9, 2, 5, 2, 0, 3, 1, 0, 0);
            Check.due("place", x.person(0, 3), 0);
            Check.due("years since", x.person(0, 6), 8);
            Check.due("DAYS since", x.person(0, 7), 1);
            Check.due("place", x.person(2, 3), 1);
            Check.due("judged", x.judged(0), 1);
            Check.due("fits", x.fits(0), 485);
        }
        // What is SAID from the first one on.
        LeapCapital first = new LeapCapital();
        first.mark(0, false);
        first.say(4, true);
        first.mark(1, false);
        first.mark(0, true);
        first.say(0, false);
        Check.due("another first one", first.fits(0), 1515);
        first.mark(1, true);
        Check.due("the first one as it was", first.fits(0), 485);
        // The eighth saying and the fortieth line, too.
        LeapCapital y = new LeapCapital();
        Check.reign(y, Check.times("ride;", 39) + "lamp 7;");
        for (int i = 0; i < 7; i++) {
            y.say(4, true);
        }
        y.say(0, false);
        y.mark(3, false);
        Check.reign(y, "");
        Check.due("back", y.mark(3, true), true);
        Check.due("lines", y.count(9), 40);
        Check.due("SAID", y.count(10), 8);
        Check.due("fits", y.fits(0), 15);
        Check.due("no ninth", y.say(1, false), false);
    }

    private static void marksAndUndo() {
        Check.says("(nothing can be undone when one is gone back to)");
        LeapCapital x = new LeapCapital();
        x.waits();
        x.waits();
        x.mark(1, false);
        Check.due("laying changes nothing", x.count(11), 2);
        Check.due("none such", x.mark(4, true), false);
        Check.due("nothing is on it", x.mark(0, true), false);
        Check.due("that changes nothing", x.count(11), 2);
        x.waits();
        Check.due("back", x.mark(1, true), true);
        Check.due("what can be undone", x.count(11), 0);
        Check.due("undo()", x.undo(), false);
        Check.due("year", x.count(1), 1898);
        x.lamp(5);
        Check.due("what is done since", x.undo(), true);
        Check.due("lamps", x.count(4), 0);
        Check.due("no more", x.undo(), false);
        x.waits();
        x.undo();
        Check.due("undoing leaves the mark", x.mark(1, true), true);
    }

    private static void counts() {
        Check.says("What 0: PERSONS .. 12: signs on the TAPE. NONE for another what");
        LeapCapital x = Check.told("person a plain born 1850 plea 6;person b leap born 1884 plea 5;person c heir born 1800 plea 20;"
                + "person d lover born 1826 plea 1;year 1903;candle 11;lives 77;");
        x.come(1);
        x.come(2);
        x.waits();
        x.come(0);
        x.lamp(3);
        Check.reign(x, "wait;ride;");
        x.say(5, true);
        Check.feed(x, "12345");
        Check.dueCounts("each of them", x, 4, 1904, 11, 77, 3, 2, 5, 2, 8, 2, 1, 5, 5);
        for (int other : new int[] {-1, -2, 13, 14}) {
            Check.due("count(" + other + ")", x.count(other), -1);
        }
        for (int other : Check.FAR) {
            Check.due("count(" + other + ")", x.count(other), -1);
        }
        Check.says("NONE = -1");
        Check.due("NONE", LeapCapital.NONE, -1);
    }
}
